import java.util.Random;

/** Many files made by chance, changed by chance: the class and the model must tell the same. */
public final class ModelTest {
    private static int sound = 0;
    private static int unknown = 0;
    private static int faulty = 0;

    public static void main(String[] args) {
        Random chance = new Random(20261118);
        for (int i = 0; i < 40000; i++) {
            byte[] file = new Maker(i, i % 4).make();
            if (file.length > 500) {
                continue;
            }
            if (i % 3 == 0) {
                file = changed(file, chance);
            }
            compare("file " + i, file, chance);
        }
        System.out.println(sound + " sound, " + unknown + " of unknown version, " + faulty + " faulty");
        Due.is("enough sound files", () -> sound > 5000, true);
        Due.is("enough unknown versions", () -> unknown > 20, true);
        Due.is("enough faulty files", () -> faulty > 5000, true);
        Due.end();
    }

    private static byte[] changed(byte[] file, Random chance) {
        byte[] other = file.clone();
        if (chance.nextInt(4) == 0) {
            return java.util.Arrays.copyOf(other, chance.nextInt(other.length));
        }
        for (int n = chance.nextInt(3); n >= 0; n--) {
            int b = chance.nextBoolean() ? chance.nextInt(256) : chance.nextInt(20);
            other[chance.nextInt(other.length)] = (byte) b;
        }
        return other;
    }

    private static void compare(String name, byte[] file, Random chance) {
        Model model = new Model(file);
        ClassReader reader = ClassFile.load(file);
        try {
            model.read();
        } catch (Model.Fault fault) {
            if (fault.version) {
                unknown++;
            } else {
                faulty++;
            }
            String want = fault.version ? "UnsupportedOperationException" : "IllegalArgumentException";
            Due.is(name + ": read()", reader::read, want);
            Due.is(name + ": where()", reader::where, fault.at);
            return;
        }
        sound++;
        Due.is(name + ": read()", reader::read, model.count);
        Due.is(name + ": where()", reader::where, Model.NONE);
        for (int i = -1; i <= model.count; i++) {
            // An object is good for 512 calls alone.
            compareEntry(name, model, afresh(file), i, chance);
        }
        compareWhole(name, model, afresh(file));
        compareMembers(name, model, afresh(file));
        compareLinkage(name, model, afresh(file));
    }

    private static ClassReader afresh(byte[] file) {
        ClassReader reader = ClassFile.load(file);
        reader.read();
        return reader;
    }

    private static void compareEntry(String name, Model model, ClassReader reader, int i, Random chance) {
        Model.Entry e = model.entries.get(i);
        int[] want = e == null ? null : new int[] {e.tag(), e.first(), e.second(), e.at()};
        for (int what = 0; what < 4; what++) {
            int w = what;
            Due.is(name + ": entry(" + i + ", " + w + ")", () -> reader.entry(i, w), e == null ? -2 : want[w]);
        }
        Due.is(name + ": number(" + i + ")", () -> reader.number(i), number(e));
        String text = e == null ? null : e.tag() == 1 ? e.text()
                : e.tag() == 7 || e.tag() == 8 || e.tag() == 16 ? model.entries.get(e.first()).text() : null;
        int k = chance.nextInt(12) - 1;
        Due.is(name + ": text(" + i + ", -1)", () -> reader.text(i, -1), text == null ? -2 : text.length());
        Due.is(name + ": text(" + i + ", " + k + ")", () -> reader.text(i, k), text == null ? -2 : at(text, k));
        String words = e == null ? null : model.words(i);
        Due.is(name + ": told(" + i + ", -1)", () -> reader.told(i, -1), words == null ? -2 : words.length());
        for (int c = -2; c < (words == null ? 1 : words.length() + 1); c++) {
            int at = c;
            Due.is(name + ": told(" + i + ", " + at + ")", () -> reader.told(i, at), words == null ? -2 : at(words, at));
        }
    }

    private static int at(String s, int k) {
        return k == -1 ? s.length() : k < 0 || k >= s.length() ? -2 : s.charAt(k);
    }

    private static Object number(Model.Entry e) {
        int tag = e == null ? 0 : e.tag();
        if (tag == 3) {
            return (double) e.first();
        }
        if (tag == 4) {
            return finite(Float.intBitsToFloat(e.first()));
        }
        long bits = tag == 0 ? 0 : (long) e.first() << 32 | Integer.toUnsignedLong(e.second());
        return tag == 5 ? (Object) (double) bits : tag == 6 ? finite(Double.longBitsToDouble(bits)) : -1.0;
    }

    private static Object finite(double x) {
        return Double.isFinite(x) ? (Object) x : "ArithmeticException";
    }

    private static void compareWhole(String name, Model m, ClassReader reader) {
        int[] want = {m.flags, m.self, m.parent, m.interfaces.size(), m.fields.size(), m.methods.size(), m.major,
            m.minor, m.entries.size()};
        for (int what = -2; what < 130; what++) {
            int w = what;
            int due = w >= 0 && w < 9 ? want[w] : w < 20 || w > 119 ? -1
                    : w - 20 < m.interfaces.size() ? m.interfaces.get(w - 20) : -2;
            Due.is(name + ": whole(" + w + ")", () -> reader.whole(w), due);
        }
    }

    private static void compareMembers(String name, Model m, ClassReader reader) {
        for (boolean method : new boolean[] {false, true}) {
            java.util.List<Model.Member> all = method ? m.methods : m.fields;
            for (int k = -2; k <= all.size(); k++) {
                int row = k;
                Model.Member one = k < 0 || k == all.size() ? null : all.get(k);
                int[] want = one == null ? null : new int[] {one.flags, one.name, one.descriptor, one.attributes,
                    one.slots, one.value, one.rows, one.thrown};
                for (int what = -1; what < 9; what++) {
                    int w = what;
                    Due.is(name + ": member(" + method + ", " + row + ", " + w + ")",
                            () -> reader.member(method, row, w), w < 0 || w > 7 ? -1 : one == null ? -2 : want[w]);
                }
            }
        }
    }

    private static void compareLinkage(String name, Model m, ClassReader reader) {
        for (int what = -1; what < 12; what++) {
            for (int k = -2; k < 4; k++) {
                int w = what;
                int row = k;
                Due.is(name + ": linkage(" + w + ", " + k + ")", () -> reader.linkage(w, row), linkage(m, w, k));
            }
        }
    }

    private static int linkage(Model m, int what, int k) {
        switch (what) {
            case 0:
                return m.host;
            case 1:
                return m.enclosingClass;
            case 2:
                return m.enclosingNaming;
            case 3:
            case 4:
                java.util.List<Integer> list = what == 3 ? m.nest : m.permitted;
                return k == -1 ? list.size() : k < 0 || k >= list.size() ? -2 : list.get(k);
            case 5:
            case 6:
            case 7:
            case 8:
                return k == -1 ? m.inner.size() : k < 0 || k >= m.inner.size() ? -2 : m.inner.get(k)[what - 5];
            case 9:
            case 10:
                return k == -1 ? m.bootstraps.size()
                        : k < 0 || k >= m.bootstraps.size() ? -2 : m.bootstraps.get(k)[what - 9];
            default:
                return -1;
        }
    }
}
