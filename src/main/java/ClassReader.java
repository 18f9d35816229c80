import java.util.Arrays;

/**
 * A reader of class files: it takes bytes, finds the first fault at its place, and tells what was
 * read. ../shared/DOC.md says what each call answers; its words in capitals are used here too.
 */
public final class ClassReader {
    public static final int REFUSED = -1;
    public static final int NONE = -2;
    public static final int FULL = -3;

    private static final int LIMIT = 500;

    private static final int TEXT = 1;
    private static final int INT = 3;
    private static final int FLOAT = 4;
    private static final int LONG = 5;
    private static final int DOUBLE = 6;
    private static final int CLASS = 7;
    private static final int STRING = 8;
    private static final int FIELD = 9;
    private static final int METHOD = 10;
    private static final int FACE = 11;
    private static final int NAMING = 12;
    private static final int HANDLE = 15;
    private static final int TYPE = 16;
    private static final int DYNAMIC = 17;
    private static final int CALL = 18;
    /** The TAG of no ENTRY at all, not even of a number that is none. */
    private static final int NO_TAG = -1;

    /** The columns of a table of members, as the call member numbers them. */
    private static final int MEMBER_FLAGS = 0;
    private static final int MEMBER_NAME = 1;
    private static final int MEMBER_DESCRIPTOR = 2;
    private static final int MEMBER_ATTRIBUTES = 3;
    private static final int MEMBER_SLOTS = 4;
    private static final int MEMBER_VALUE = 5;
    private static final int MEMBER_HANDLERS = 6;
    private static final int MEMBER_THROWN = 7;
    private static final int MEMBER_WIDTH = 8;

    private final Source source;
    private final Pool pool;
    private final Links links;
    private final Attributes attributes;
    private final Shape shape;
    private final Words words;
    private boolean isRead;

    public ClassReader() {
        source = new Source();
        pool = new Pool(source);
        links = new Links(source, pool);
        attributes = new Attributes(source, pool);
        shape = new Shape(source, pool, attributes);
        words = new Words(pool);
        isRead = false;
    }

    public int bytes(long w, int n) {
        return source.append(w, n);
    }

    public boolean patch(int at, int b) {
        return source.change(at, b);
    }

    public int cut(int n) {
        return source.shorten(n);
    }

    public int read() throws IllegalArgumentException, UnsupportedOperationException {
        // A FAULT leaves by an exception, so that the last lines are reached without one alone.
        isRead = false;
        source.rewind();
        shape.loadVersion();
        pool.load();
        pool.sortTexts();
        links.demandEntries();
        shape.loadHead();
        shape.loadFields();
        shape.loadMethods();
        attributes.loadWhole();
        source.demandEnd();
        links.demandBootstraps(attributes.bootstraps.rows());
        isRead = true;
        return pool.entries.rows();
    }

    public int where() {
        return source.fault();
    }

    public int entry(int i, int what) throws IllegalStateException {
        demandReading();
        if (what < Pool.TAG || what > Pool.OFFSET) {
            return REFUSED;
        }
        return pool.has(i) ? pool.entries.get(i, what) : NONE;
    }

    public double number(int i) throws IllegalStateException, ArithmeticException {
        demandReading();
        switch (pool.tag(i)) {
            case INT:
                return (double) pool.first(i);
            case LONG:
                return (double) pool.wide(i);
            case FLOAT:
                return Decimal.ofFloat(pool.first(i));
            case DOUBLE:
                return Decimal.ofDouble(pool.wide(i));
            default:
                return -1;
        }
    }

    public int text(int i, int k) throws IllegalStateException {
        demandReading();
        return pool.character(pool.textOf(i), k);
    }

    public int told(int i, int k) throws IllegalStateException {
        demandReading();
        return pool.has(i) ? words.tell(i, k) : NONE;
    }

    public int whole(int what) throws IllegalStateException {
        demandReading();
        switch (what) {
            case 0:
                return shape.flags;
            case 1:
                return shape.self;
            case 2:
                return shape.parent;
            case 3:
                return shape.interfaces.rows();
            case 4:
                return shape.fields.rows();
            case 5:
                return shape.methods.rows();
            case 6:
                return shape.major;
            case 7:
                return shape.minor;
            case 8:
                return pool.countEntries();
            default:
                return what >= 20 && what <= 119 ? shape.interfaces.get(what - 20, 0) : REFUSED;
        }
    }

    public int member(boolean method, int k, int what) throws IllegalStateException {
        demandReading();
        if (what < 0 || what >= MEMBER_WIDTH) {
            return REFUSED;
        }
        return method ? shape.methods.get(k, what) : shape.fields.get(k, what);
    }

    public int linkage(int what, int k) throws IllegalStateException {
        demandReading();
        switch (what) {
            case 0:
                return attributes.host;
            case 1:
                return attributes.enclosingClass;
            case 2:
                return attributes.enclosingNaming;
            case 3:
                return listed(attributes.nest, k, 0);
            case 4:
                return listed(attributes.permitted, k, 0);
            case 5:
            case 6:
            case 7:
            case 8:
                return listed(attributes.inner, k, what - 5);
            case 9:
            case 10:
                return listed(attributes.bootstraps, k, what - 9);
            default:
                return REFUSED;
        }
    }

    private void demandReading() {
        if (!isRead) {
            throw new IllegalStateException();
        }
    }

    private static int listed(Table table, int k, int column) {
        return k == -1 ? table.rows() : table.get(k, column);
    }

    /** Rows of numbers, made once and filled anew by each READING. */
    private static final class Table {
        private final int width;
        private final int[] cells;
        private int rows;

        Table(int width, int room) {
            this.width = width;
            this.cells = new int[width * room];
            this.rows = 0;
        }

        void clear() {
            rows = 0;
        }

        int rows() {
            return rows;
        }

        /** The number of a new row: this number, and zeros behind it. */
        int add(int first) {
            int from = rows * width;
            // No FILE has the BYTES for so many rows.
            if (from + width > cells.length) {
                return NONE;
            }
            Arrays.fill(cells, from, from + width, 0);
            cells[from] = first;
            rows++;
            return rows - 1;
        }

        void set(int row, int column, int x) {
            if (row >= 0 && row < rows && column >= 0 && column < width) {
                cells[row * width + column] = x;
            }
        }

        int get(int row, int column) {
            if (row < 0 || row >= rows || column < 0 || column >= width) {
                return NONE;
            }
            return cells[row * width + column];
        }
    }

    /** The FILE, the place that READING has come to, and the FAULT that it ended with. */
    private static final class Source {
        private final int[] file;
        private int size;
        private int at;
        private int fault;

        Source() {
            file = new int[LIMIT];
            size = 0;
            at = 0;
            fault = NONE;
        }

        int append(long w, int n) {
            if (n < 1 || n > 8) {
                return REFUSED;
            }
            if (size + n > LIMIT) {
                return FULL;
            }
            for (int i = n - 1; i >= 0; i--) {
                file[size] = (int) (w >>> 8 * i) & 255;
                size++;
            }
            return size;
        }

        boolean change(int offset, int b) {
            if (offset < 0 || offset >= size || b < 0 || b > 255) {
                return false;
            }
            file[offset] = b;
            return true;
        }

        int shorten(int n) {
            if (n < 0 || n > size) {
                return REFUSED;
            }
            int gone = size - n;
            size = n;
            return gone;
        }

        void rewind() {
            at = 0;
            fault = NONE;
        }

        int at() {
            return at;
        }

        int fault() {
            return fault;
        }

        void demand(boolean good, int offset) {
            if (!good) {
                fault = offset;
                throw new IllegalArgumentException();
            }
        }

        void demandVersion(boolean known, int offset) {
            if (!known) {
                fault = offset;
                throw new UnsupportedOperationException();
            }
        }

        void demandEnd() {
            demand(at == size, at);
        }

        /** The number in the next 1, 2 or 4 BYTES; one of 4 BYTES wraps around into an int. */
        int next(int width) {
            if (width > size - at) {
                fault = size;
                throw new IllegalArgumentException();
            }
            int x = 0;
            for (int i = 0; i < width; i++) {
                x = x << 8 | file[at + i];
            }
            at += width;
            return x;
        }

        /** A u4 that so many BYTES stand behind; below 0 it stands for more than any FILE has. */
        int length() {
            int n = next(4);
            demandBytes(n);
            return n;
        }

        void skip(int n) {
            demandBytes(n);
            at += n;
        }

        void demandBytes(int n) {
            if (n < 0 || n > size - at) {
                fault = size;
                throw new IllegalArgumentException();
            }
        }
    }

    /** What the CHARACTERS from one place up to another spell. */
    private static final class Grammar {
        static final int SIMPLE_NAME = 1;
        static final int METHOD_NAME = 2;
        static final int PATH = 4;
        static final int CLASS_NAME = 8;
        static final int FIELD_TYPE = 16;
        static final int METHOD_TYPE = 32;
        static final int INIT = 64;
        static final int CLINIT = 128;

        private static final int NOWHERE = -1;

        private Grammar() {
        }

        /** All that the CHARACTERS are, as bits. */
        static int kinds(int[] c, int from, int to) {
            int kinds = nameKinds(c, from, to);
            if (isPath(c, from, to)) {
                kinds |= PATH | CLASS_NAME;
            }
            if (fieldEnd(c, from, to) == to) {
                kinds |= c[from] == '[' ? FIELD_TYPE | CLASS_NAME : FIELD_TYPE;
            }
            if (isMethodType(c, from, to)) {
                kinds |= METHOD_TYPE;
            }
            return kinds;
        }

        private static int nameKinds(int[] c, int from, int to) {
            if (spells(c, from, to, "<init>")) {
                return SIMPLE_NAME | METHOD_NAME | INIT;
            }
            if (spells(c, from, to, "<clinit>")) {
                return SIMPLE_NAME | METHOD_NAME | CLINIT;
            }
            boolean simple = isPath(c, from, to);
            boolean angles = false;
            for (int at = from; at < to; at++) {
                simple = simple && c[at] != '/';
                angles = angles || c[at] == '<' || c[at] == '>';
            }
            if (!simple) {
                return 0;
            }
            return angles ? SIMPLE_NAME : SIMPLE_NAME | METHOD_NAME;
        }

        static boolean isPath(int[] c, int from, int to) {
            boolean begins = true;
            for (int at = from; at < to; at++) {
                if (c[at] == '.' || c[at] == ';' || c[at] == '[' || begins && c[at] == '/') {
                    return false;
                }
                begins = c[at] == '/';
            }
            return !begins;
        }

        /** The place behind the FIELD DESCRIPTOR that begins at from, or NOWHERE. */
        static int fieldEnd(int[] c, int from, int to) {
            int at = from;
            while (at < to && c[at] == '[') {
                at++;
            }
            if (at >= to) {
                return NOWHERE;
            }
            if (c[at] != 'L') {
                return isBasic(c[at]) ? at + 1 : NOWHERE;
            }
            int end = at + 1;
            while (end < to && c[end] != ';') {
                end++;
            }
            return end < to && isPath(c, at + 1, end) ? end + 1 : NOWHERE;
        }

        private static boolean isBasic(int character) {
            switch (character) {
                case 'B':
                case 'C':
                case 'D':
                case 'F':
                case 'I':
                case 'J':
                case 'S':
                case 'Z':
                    return true;
                default:
                    return false;
            }
        }

        /**
         * The place of the bracket that closes a METHOD DESCRIPTOR, or NOWHERE. It is not just the
         * first one: a PATH may have one too.
         */
        static int closing(int[] c, int from, int to) {
            int at = from + 1;
            for (int n = 0; n < LIMIT && at < to && c[at] != ')'; n++) {
                at = fieldEnd(c, at, to);
                if (at == NOWHERE) {
                    return NOWHERE;
                }
            }
            return at < to ? at : NOWHERE;
        }

        static boolean isMethodType(int[] c, int from, int to) {
            if (from >= to || c[from] != '(') {
                return false;
            }
            int close = closing(c, from, to);
            if (close == NOWHERE) {
                return false;
            }
            return spells(c, close + 1, to, "V") || fieldEnd(c, close + 1, to) == to;
        }

        /** The SLOTS of a METHOD DESCRIPTOR. */
        static int slots(int[] c, int from, int to) {
            int slots = 0;
            int at = from + 1;
            for (int n = 0; n < LIMIT && at >= 0 && at < to && c[at] != ')'; n++) {
                slots += isWide(c[at]) ? 2 : 1;
                at = fieldEnd(c, at, to);
            }
            return slots;
        }

        static boolean isWide(int character) {
            return character == 'J' || character == 'D';
        }

        static boolean spells(int[] c, int from, int to, String word) {
            if (to - from != word.length()) {
                return false;
            }
            for (int i = 0; i < word.length(); i++) {
                if (c[from + i] != word.charAt(i)) {
                    return false;
                }
            }
            return true;
        }
    }

    /** The ENTRIES and the CHARACTERS of their TEXTS. */
    private static final class Pool {
        /** The first four columns are numbered as the call entry numbers them. */
        static final int TAG = 0;
        static final int FIRST = 1;
        static final int SECOND = 2;
        static final int OFFSET = 3;
        private static final int START = 4;
        private static final int KINDS = 5;
        private static final int WIDTH = 6;

        private final Source source;
        /** Row 0, and the row behind each LONG or DOUBLE, is no ENTRY and has the TAG 0. */
        private final Table entries;
        private final int[] characters;
        private int used;

        Pool(Source source) {
            this.source = source;
            // Each number takes more than two BYTES, and row 0 and the FILE's head ten.
            this.entries = new Table(WIDTH, LIMIT / 2);
            this.characters = new int[LIMIT];
            this.used = 0;
        }

        void load() {
            entries.clear();
            used = 0;
            int count = source.next(2);
            source.demand(count >= 1, source.at() - 2);
            entries.add(0);
            for (int i = 1; i < count; i++) {
                int at = source.at();
                int tag = source.next(1);
                boolean isWide = tag == LONG || tag == DOUBLE;
                // The TAG alone tells it, so this comes before BYTES that are missing behind the TAG.
                source.demand(!isWide || i + 1 < count, at);
                loadEntry(entries.add(tag), tag, at);
                if (isWide) {
                    i++;
                    entries.add(0);
                }
            }
        }

        private void loadEntry(int i, int tag, int at) {
            entries.set(i, OFFSET, at);
            switch (tag) {
                case TEXT:
                    loadText(i);
                    break;
                case INT:
                case FLOAT:
                    entries.set(i, FIRST, source.next(4));
                    break;
                case LONG:
                case DOUBLE:
                    loadPair(i, 4, 4);
                    break;
                case CLASS:
                case STRING:
                case TYPE:
                    entries.set(i, FIRST, source.next(2));
                    break;
                case FIELD:
                case METHOD:
                case FACE:
                case NAMING:
                case DYNAMIC:
                case CALL:
                    loadPair(i, 2, 2);
                    break;
                case HANDLE:
                    loadPair(i, 1, 2);
                    break;
                default:
                    source.demand(false, at);
                    break;
            }
        }

        private void loadPair(int i, int firstWidth, int secondWidth) {
            entries.set(i, FIRST, source.next(firstWidth));
            entries.set(i, SECOND, source.next(secondWidth));
        }

        private void loadText(int i) {
            int n = source.next(2);
            source.demandBytes(n);
            int end = source.at() + n;
            int start = used;
            for (int k = 0; k < n && source.at() < end; k++) {
                loadCharacter(end);
            }
            entries.set(i, START, start);
            entries.set(i, FIRST, used - start);
        }

        private void loadCharacter(int end) {
            int at = source.at();
            int b = source.next(1);
            int further = furtherBytes(b);
            source.demand(further >= 0 && source.at() + further <= end, at);
            int character = further == 0 ? b : further == 1 ? b & 31 : b & 15;
            for (int i = 0; i < further; i++) {
                int next = source.next(1);
                source.demand(next >= 128 && next <= 191, at);
                character = 64 * character + (next & 63);
            }
            if (used < characters.length) {
                characters[used] = character;
                used++;
            }
        }

        /** How many BYTES a CHARACTER has behind this first one; -1 if none begins so. */
        private static int furtherBytes(int b) {
            if (b >= 1 && b <= 127) {
                return 0;
            }
            if (b >= 192 && b <= 223) {
                return 1;
            }
            return b >= 224 && b <= 239 ? 2 : -1;
        }

        /** Finds once what each TEXT is, as many others may ask that of it. */
        void sortTexts() {
            for (int i = 1; i < entries.rows(); i++) {
                if (tag(i) == TEXT) {
                    entries.set(i, KINDS, Grammar.kinds(characters, start(i), end(i)));
                }
            }
        }

        /** Reads the number of an ENTRY that must have this TAG. */
        int take(int tag) {
            int i = source.next(2);
            source.demand(entries.get(i, TAG) == tag, source.at() - 2);
            return i;
        }

        int takeOrZero(int tag) {
            int i = source.next(2);
            source.demand(i == 0 || entries.get(i, TAG) == tag, source.at() - 2);
            return i;
        }

        /** Reads the number of a TEXT that must be of one of these kinds. */
        int takeText(int kinds) {
            int i = source.next(2);
            source.demand(fits(i, kinds), source.at() - 2);
            return i;
        }

        boolean has(int i) {
            return entries.get(i, TAG) > 0;
        }

        int tag(int i) {
            return entries.get(i, TAG);
        }

        int first(int i) {
            return entries.get(i, FIRST);
        }

        int second(int i) {
            return entries.get(i, SECOND);
        }

        /** Both numbers of a LONG or DOUBLE as one. */
        long wide(int i) {
            return (long) first(i) << 32 | second(i) & 0xFFFFFFFFL;
        }

        int start(int text) {
            return entries.get(text, START);
        }

        int end(int text) {
            return entries.get(text, START) + entries.get(text, FIRST);
        }

        int countEntries() {
            int count = 0;
            for (int i = 1; i < entries.rows(); i++) {
                if (has(i)) {
                    count++;
                }
            }
            return count;
        }

        /** Whether this is a TEXT of one of these kinds. */
        boolean fits(int i, int kinds) {
            return entries.get(i, TAG) == TEXT && (entries.get(i, KINDS) & kinds) != 0;
        }

        /** Whether this is a CLASS whose name is a PATH. */
        boolean isPlainClass(int i) {
            return tag(i) == CLASS && fits(first(i), Grammar.PATH);
        }

        boolean spells(int text, String word) {
            return tag(text) == TEXT && Grammar.spells(characters, start(text), end(text), word);
        }

        /** Whether two TEXTS have the same CHARACTERS, which other BYTES may spell, too. */
        boolean isSame(int text, int other) {
            int from = start(text);
            int n = first(text);
            int otherFrom = start(other);
            if (tag(text) != TEXT || tag(other) != TEXT || n != first(other)) {
                return false;
            }
            for (int k = 0; k < n; k++) {
                if (characters[from + k] != characters[otherFrom + k]) {
                    return false;
                }
            }
            return true;
        }

        /** The TEXT that this ENTRY is or names; NONE for an ENTRY without. */
        int textOf(int i) {
            switch (tag(i)) {
                case TEXT:
                    return i;
                case CLASS:
                case STRING:
                case TYPE:
                    return first(i);
                default:
                    return NONE;
            }
        }

        /** CHARACTER k of a TEXT, or for k = -1 their number; NONE without. */
        int character(int text, int k) {
            if (tag(text) != TEXT || k < -1 || k >= first(text)) {
                return NONE;
            }
            return k == -1 ? first(text) : characters[start(text) + k];
        }
    }

    /** What ENTRIES must be so that others may name them. */
    private static final class Links {
        private final Source source;
        private final Pool pool;

        Links(Source source, Pool pool) {
            this.source = source;
            this.pool = pool;
        }

        void demandEntries() {
            for (int i = 1; i < pool.entries.rows(); i++) {
                source.demand(isSound(i), pool.entries.get(i, Pool.OFFSET));
            }
        }

        void demandBootstraps(int count) {
            for (int i = 1; i < pool.entries.rows(); i++) {
                boolean starts = pool.tag(i) == DYNAMIC || pool.tag(i) == CALL;
                source.demand(!starts || pool.first(i) < count, pool.entries.get(i, Pool.OFFSET));
            }
        }

        private boolean isSound(int i) {
            int first = pool.first(i);
            int second = pool.second(i);
            switch (pool.tag(i)) {
                case CLASS:
                    return pool.fits(first, Grammar.CLASS_NAME);
                case STRING:
                    return pool.tag(first) == TEXT;
                case TYPE:
                    return pool.fits(first, Grammar.METHOD_TYPE);
                case FIELD:
                    return pool.tag(first) == CLASS && isNaming(second, Grammar.FIELD_TYPE);
                case METHOD:
                case FACE:
                    return pool.tag(first) == CLASS && isMethodNaming(second);
                case NAMING:
                    return isSoundNaming(first, second);
                case DYNAMIC:
                    return isNaming(second, Grammar.FIELD_TYPE);
                case CALL:
                    return isNaming(second, Grammar.METHOD_TYPE);
                case HANDLE:
                    return isHandled(first, pool.tag(second));
                default:
                    return true;
            }
        }

        private boolean isSoundNaming(int name, int descriptor) {
            return pool.fits(name, Grammar.SIMPLE_NAME | Grammar.METHOD_NAME)
                    && pool.fits(descriptor, Grammar.FIELD_TYPE | Grammar.METHOD_TYPE);
        }

        private boolean isNaming(int i, int kinds) {
            return pool.tag(i) == NAMING && pool.fits(pool.second(i), kinds);
        }

        private boolean isMethodNaming(int i) {
            int name = pool.first(i);
            return isNaming(i, Grammar.METHOD_TYPE)
                    && pool.fits(name, Grammar.METHOD_NAME) && !pool.fits(name, Grammar.CLINIT);
        }

        private static boolean isHandled(int kind, int tag) {
            switch (kind) {
                case 1:
                case 2:
                case 3:
                case 4:
                    return tag == FIELD;
                case 5:
                case 8:
                    return tag == METHOD;
                case 6:
                case 7:
                    return tag == METHOD || tag == FACE;
                case 9:
                    return tag == FACE;
                default:
                    return false;
            }
        }
    }

    /** The KNOWN ATTRIBUTES, where they are allowed, and which may not stand beside which. */
    private enum Known {
        OTHER("", Known.NOWHERE, 0, 0),
        CONSTANT_VALUE("ConstantValue", Known.OF_FIELD, 1, 1),
        CODE("Code", Known.OF_METHOD, 2, 2),
        EXCEPTIONS("Exceptions", Known.OF_METHOD, 4, 4),
        INNER_CLASSES("InnerClasses", Known.OF_WHOLE, 8, 8),
        ENCLOSING_METHOD("EnclosingMethod", Known.OF_WHOLE, 16, 16),
        NEST_HOST("NestHost", Known.OF_WHOLE, 32, 32 | 64),
        NEST_MEMBERS("NestMembers", Known.OF_WHOLE, 64, 32 | 64),
        PERMITTED_SUBCLASSES("PermittedSubclasses", Known.OF_WHOLE, 128, 128),
        BOOTSTRAP_METHODS("BootstrapMethods", Known.OF_WHOLE, 256, 256);

        static final int NOWHERE = 0;
        static final int OF_FIELD = 1;
        static final int OF_METHOD = 2;
        static final int OF_WHOLE = 3;

        private final String word;
        private final int place;
        private final int bit;
        private final int rivals;

        Known(String word, int place, int bit, int rivals) {
            this.word = word;
            this.place = place;
            this.bit = bit;
            this.rivals = rivals;
        }
    }

    /** Reads ATTRIBUTES and keeps what the KNOWN ones say. */
    private static final class Attributes {
        private static final Known[] ALL = Known.values();
        private static final int MOST_CODE = 65535;

        private final Source source;
        private final Pool pool;

        /** Of the member that was read last. */
        private int value;
        private int handlers;
        private int thrown;

        /** Of the whole. */
        private int host;
        private int enclosingClass;
        private int enclosingNaming;
        private final Table nest;
        private final Table permitted;
        private final Table inner;
        private final Table bootstraps;

        Attributes(Source source, Pool pool) {
            this.source = source;
            this.pool = pool;
            this.nest = new Table(1, LIMIT / 2);
            this.permitted = new Table(1, LIMIT / 2);
            this.inner = new Table(4, LIMIT / 8);
            this.bootstraps = new Table(2, LIMIT / 4);
        }

        void loadWhole() {
            host = NONE;
            enclosingClass = NONE;
            enclosingNaming = NONE;
            nest.clear();
            permitted.clear();
            inner.clear();
            bootstraps.clear();
            load(Known.OF_WHOLE, NONE);
        }

        /** Reads the ATTRIBUTES of one place; the descriptor is a FIELD's. How many there are. */
        int load(int place, int descriptor) {
            value = NONE;
            handlers = NONE;
            thrown = 0;
            int n = source.next(2);
            int seen = 0;
            for (int i = 0; i < n; i++) {
                int nameAt = source.at();
                Known known = find(place, pool.take(TEXT));
                source.demand((seen & known.rivals) == 0, nameAt);
                seen |= known.bit;
                int lengthAt = source.at();
                int length = source.length();
                int end = source.at() + length;
                switch (known) {
                    case CONSTANT_VALUE:
                        value = pool.take(constantTag(descriptor));
                        break;
                    case CODE:
                        loadCode();
                        break;
                    case EXCEPTIONS:
                        thrown = skipClasses();
                        break;
                    case INNER_CLASSES:
                        loadInner();
                        break;
                    case ENCLOSING_METHOD:
                        enclosingClass = pool.take(CLASS);
                        enclosingNaming = pool.takeOrZero(NAMING);
                        break;
                    case NEST_HOST:
                        host = pool.take(CLASS);
                        break;
                    case NEST_MEMBERS:
                        loadClasses(nest);
                        break;
                    case PERMITTED_SUBCLASSES:
                        loadClasses(permitted);
                        break;
                    case BOOTSTRAP_METHODS:
                        loadBootstraps();
                        break;
                    default:
                        source.skip(length);
                        break;
                }
                source.demand(source.at() == end, lengthAt);
            }
            return n;
        }

        private Known find(int place, int name) {
            for (int i = 0; i < ALL.length; i++) {
                if (ALL[i].place == place && pool.spells(name, ALL[i].word)) {
                    return ALL[i];
                }
            }
            return Known.OTHER;
        }

        /** The TAG of the value of a FIELD with this descriptor; NO_TAG if it may have no value. */
        private int constantTag(int descriptor) {
            if (pool.spells(descriptor, "Ljava/lang/String;")) {
                return STRING;
            }
            if (pool.first(descriptor) != 1) {
                return NO_TAG;
            }
            switch (pool.character(descriptor, 0)) {
                case 'J':
                    return LONG;
                case 'F':
                    return FLOAT;
                case 'D':
                    return DOUBLE;
                default:
                    return INT;
            }
        }

        private void loadCode() {
            source.skip(4);
            int size = source.next(4);
            source.demand(size >= 1 && size <= MOST_CODE, source.at() - 4);
            source.skip(size);
            int n = source.next(2);
            for (int i = 0; i < n; i++) {
                loadHandler(size);
            }
            skipAttributes();
            value = size;
            handlers = n;
        }

        private void loadHandler(int size) {
            int at = source.at();
            int start = source.next(2);
            int end = source.next(2);
            int handler = source.next(2);
            source.demand(start < end, at);
            source.demand(end <= size, at + 2);
            source.demand(handler < size, at + 4);
            pool.takeOrZero(CLASS);
        }

        /** The ATTRIBUTES of a Code, where none is KNOWN. */
        private void skipAttributes() {
            int n = source.next(2);
            for (int i = 0; i < n; i++) {
                pool.take(TEXT);
                source.skip(source.length());
            }
        }

        private int skipClasses() {
            int n = source.next(2);
            for (int i = 0; i < n; i++) {
                pool.take(CLASS);
            }
            return n;
        }

        private void loadClasses(Table into) {
            int n = source.next(2);
            for (int i = 0; i < n; i++) {
                into.add(pool.take(CLASS));
            }
        }

        private void loadInner() {
            int n = source.next(2);
            for (int i = 0; i < n; i++) {
                int row = inner.add(pool.take(CLASS));
                inner.set(row, 1, pool.takeOrZero(CLASS));
                inner.set(row, 2, pool.takeOrZero(TEXT));
                inner.set(row, 3, source.next(2));
            }
        }

        private void loadBootstraps() {
            int n = source.next(2);
            for (int i = 0; i < n; i++) {
                int row = bootstraps.add(pool.take(HANDLE));
                int m = source.next(2);
                bootstraps.set(row, 1, m);
                for (int k = 0; k < m; k++) {
                    int tag = pool.tag(source.next(2));
                    source.demand(isLoadable(tag), source.at() - 2);
                }
            }
        }

        private static boolean isLoadable(int tag) {
            switch (tag) {
                case INT:
                case FLOAT:
                case LONG:
                case DOUBLE:
                case CLASS:
                case STRING:
                case HANDLE:
                case TYPE:
                case DYNAMIC:
                    return true;
                default:
                    return false;
            }
        }
    }

    /** The version, the head, the FIELDS and the METHODS. */
    private static final class Shape {
        private static final int MAGIC = 0xCAFEBABE;

        private static final int ACCESS = 1 | 2 | 4;
        private static final int FINAL = 16;
        private static final int VOLATILE = 64;
        private static final int NATIVE = 256;
        private static final int INTERFACE = 512;
        private static final int ABSTRACT = 1024;
        private static final int NOT_BESIDE_ABSTRACT = 2 | 8 | 16 | 32 | 256;

        private final Source source;
        private final Pool pool;
        private final Attributes attributes;
        private final Table interfaces;
        private final Table fields;
        private final Table methods;
        private int minor;
        private int major;
        private int flags;
        private int self;
        private int parent;

        Shape(Source source, Pool pool, Attributes attributes) {
            this.source = source;
            this.pool = pool;
            this.attributes = attributes;
            this.interfaces = new Table(1, LIMIT / 2);
            this.fields = new Table(MEMBER_WIDTH, LIMIT / 8);
            this.methods = new Table(MEMBER_WIDTH, LIMIT / 8);
        }

        void loadVersion() {
            source.demand(source.next(4) == MAGIC, 0);
            minor = source.next(2);
            major = source.next(2);
            boolean isOld = major >= 45 && major <= 55;
            boolean isNew = major >= 56 && major <= 69 && (minor == 0 || minor == 65535);
            source.demandVersion(isOld || isNew, source.at() - 4);
        }

        void loadHead() {
            flags = source.next(2);
            source.demand(areWholeFlags(flags), source.at() - 2);
            self = takePlainClass();
            parent = source.next(2);
            boolean goodParent = parent == 0 ? (flags & INTERFACE) == 0 : pool.isPlainClass(parent);
            source.demand(goodParent, source.at() - 2);
            interfaces.clear();
            int n = source.next(2);
            for (int i = 0; i < n; i++) {
                interfaces.add(takePlainClass());
            }
        }

        private int takePlainClass() {
            int i = source.next(2);
            source.demand(pool.isPlainClass(i), source.at() - 2);
            return i;
        }

        void loadFields() {
            fields.clear();
            int n = source.next(2);
            for (int i = 0; i < n; i++) {
                int row = loadFieldHead();
                int count = attributes.load(Known.OF_FIELD, fields.get(row, MEMBER_DESCRIPTOR));
                setAttributes(fields, row, count);
            }
        }

        private int loadFieldHead() {
            int memberFlags = source.next(2);
            source.demand(areFieldFlags(memberFlags), source.at() - 2);
            int name = pool.takeText(Grammar.SIMPLE_NAME);
            int nameAt = source.at() - 2;
            int descriptor = pool.takeText(Grammar.FIELD_TYPE);
            int row = addMember(fields, memberFlags, name, descriptor);
            fields.set(row, MEMBER_SLOTS, Grammar.isWide(pool.character(descriptor, 0)) ? 2 : 1);
            source.demand(!isTwice(fields, row), nameAt);
            return row;
        }

        void loadMethods() {
            methods.clear();
            int n = source.next(2);
            for (int i = 0; i < n; i++) {
                int at = source.at();
                int row = loadMethodHead();
                int count = attributes.load(Known.OF_METHOD, NONE);
                setAttributes(methods, row, count);
                boolean isBare = (methods.get(row, MEMBER_FLAGS) & (ABSTRACT | NATIVE)) != 0;
                boolean hasCode = methods.get(row, MEMBER_VALUE) != NONE;
                source.demand(isBare != hasCode, at);
            }
        }

        private int loadMethodHead() {
            int memberFlags = source.next(2);
            source.demand(areMethodFlags(memberFlags), source.at() - 2);
            int name = pool.takeText(Grammar.METHOD_NAME);
            int nameAt = source.at() - 2;
            int descriptor = pool.takeText(Grammar.METHOD_TYPE);
            source.demand(areMatched(name, descriptor), source.at() - 2);
            int row = addMember(methods, memberFlags, name, descriptor);
            int from = pool.start(descriptor);
            methods.set(row, MEMBER_SLOTS, Grammar.slots(pool.characters, from, pool.end(descriptor)));
            source.demand(!isTwice(methods, row), nameAt);
            return row;
        }

        private static boolean areWholeFlags(int flags) {
            boolean isFinal = (flags & FINAL) != 0;
            boolean isAbstract = (flags & ABSTRACT) != 0;
            if ((flags & INTERFACE) != 0) {
                return isAbstract && !isFinal;
            }
            return !isAbstract || !isFinal;
        }

        private static boolean areFieldFlags(int flags) {
            boolean isChangedFinal = (flags & FINAL) != 0 && (flags & VOLATILE) != 0;
            return Integer.bitCount(flags & ACCESS) <= 1 && !isChangedFinal;
        }

        private static boolean areMethodFlags(int flags) {
            boolean isAbstract = (flags & ABSTRACT) != 0;
            boolean hasRival = (flags & NOT_BESIDE_ABSTRACT) != 0;
            return Integer.bitCount(flags & ACCESS) <= 1 && !(isAbstract && hasRival);
        }

        /** Whether a METHOD of this name may have this METHOD DESCRIPTOR. */
        private boolean areMatched(int name, int descriptor) {
            if (pool.fits(name, Grammar.CLINIT)) {
                return pool.spells(descriptor, "()V");
            }
            // A PATH ends with ; so that a last V can only be the one behind the bracket.
            int last = pool.character(descriptor, pool.first(descriptor) - 1);
            return !pool.fits(name, Grammar.INIT) || last == 'V';
        }

        private static int addMember(Table members, int flags, int name, int descriptor) {
            int row = members.add(flags);
            members.set(row, MEMBER_NAME, name);
            members.set(row, MEMBER_DESCRIPTOR, descriptor);
            return row;
        }

        private void setAttributes(Table members, int row, int count) {
            members.set(row, MEMBER_ATTRIBUTES, count);
            members.set(row, MEMBER_VALUE, attributes.value);
            members.set(row, MEMBER_HANDLERS, attributes.handlers);
            members.set(row, MEMBER_THROWN, attributes.thrown);
        }

        private boolean isTwice(Table members, int row) {
            int name = members.get(row, MEMBER_NAME);
            int descriptor = members.get(row, MEMBER_DESCRIPTOR);
            for (int k = 0; k < row; k++) {
                if (pool.isSame(members.get(k, MEMBER_NAME), name)
                        && pool.isSame(members.get(k, MEMBER_DESCRIPTOR), descriptor)) {
                    return true;
                }
            }
            return false;
        }
    }

    /** Tells ENTRIES in words; kept are only their count and the one CHARACTER that is wanted. */
    private static final class Words {
        private static final int NO_OWNER = 0;

        private final Pool pool;
        private int wanted;
        private int count;
        private int found;

        Words(Pool pool) {
            this.pool = pool;
        }

        int tell(int i, int k) {
            wanted = k;
            count = 0;
            found = NONE;
            switch (pool.tag(i)) {
                case CLASS:
                    putClass(i);
                    break;
                case TYPE:
                    putResult(pool.first(i));
                    putArguments(pool.first(i));
                    break;
                case NAMING:
                    putNaming(i, NO_OWNER);
                    break;
                case FIELD:
                case METHOD:
                case FACE:
                    putNaming(pool.second(i), pool.first(i));
                    break;
                default:
                    break;
            }
            return k == -1 ? count : found;
        }

        private void putNaming(int naming, int owner) {
            int name = pool.first(naming);
            int descriptor = pool.second(naming);
            boolean isMethod = pool.fits(descriptor, Grammar.METHOD_TYPE);
            if (isMethod) {
                putResult(descriptor);
            } else {
                putType(pool.start(descriptor), pool.end(descriptor));
            }
            put(' ');
            if (owner != NO_OWNER) {
                putClass(owner);
                put('.');
            }
            putCharacters(pool.start(name), pool.end(name));
            if (isMethod) {
                putArguments(descriptor);
            }
        }

        private void putClass(int i) {
            int name = pool.first(i);
            if (pool.fits(name, Grammar.PATH)) {
                putPath(pool.start(name), pool.end(name));
            } else {
                putType(pool.start(name), pool.end(name));
            }
        }

        private void putResult(int descriptor) {
            int end = pool.end(descriptor);
            putType(Grammar.closing(pool.characters, pool.start(descriptor), end) + 1, end);
        }

        private void putArguments(int descriptor) {
            int at = pool.start(descriptor) + 1;
            int end = Grammar.closing(pool.characters, at - 1, pool.end(descriptor));
            put('(');
            for (int n = 0; n < LIMIT && at >= 0 && at < end; n++) {
                if (n > 0) {
                    put(',');
                    put(' ');
                }
                at = putType(at, end);
            }
            put(')');
        }

        /** The type that begins at this place; the place behind it. */
        private int putType(int from, int to) {
            int at = from;
            while (at < to && pool.characters[at] == '[') {
                at++;
            }
            int depth = at - from;
            int end = at + 1;
            if (at < to && pool.characters[at] == 'L') {
                end = Grammar.fieldEnd(pool.characters, at, to);
                putPath(at + 1, end - 1);
            } else if (at < to) {
                putWord(basicWord(pool.characters[at]));
            }
            for (int i = 0; i < depth; i++) {
                putWord("[]");
            }
            return end;
        }

        private static String basicWord(int character) {
            switch (character) {
                case 'B':
                    return "byte";
                case 'C':
                    return "char";
                case 'D':
                    return "double";
                case 'F':
                    return "float";
                case 'I':
                    return "int";
                case 'J':
                    return "long";
                case 'S':
                    return "short";
                case 'Z':
                    return "boolean";
                default:
                    return "void";
            }
        }

        private void putPath(int from, int to) {
            for (int at = from; at < to; at++) {
                put(pool.characters[at] == '/' ? '.' : pool.characters[at]);
            }
        }

        private void putCharacters(int from, int to) {
            for (int at = from; at < to; at++) {
                put(pool.characters[at]);
            }
        }

        private void putWord(String word) {
            for (int i = 0; i < word.length(); i++) {
                put(word.charAt(i));
            }
        }

        private void put(int character) {
            if (count == wanted) {
                found = character;
            }
            count++;
        }
    }

    /** The values of FLOAT and DOUBLE, by arithmetic alone, each step of which is exact. */
    private static final class Decimal {
        private static final int STRIDE = 30;

        private Decimal() {
        }

        static double ofFloat(int bits) {
            int exponent = bits >>> 23 & 255;
            demandFinite(exponent < 255);
            long fraction = bits & 0x7FFFFF;
            double value = exponent == 0
                    ? scaled(fraction, -149)
                    : scaled(fraction | 0x800000, exponent - 150);
            return bits < 0 ? -value : value;
        }

        static double ofDouble(long bits) {
            int exponent = (int) (bits >>> 52) & 2047;
            demandFinite(exponent < 2047);
            long fraction = bits & 0xFFFFFFFFFFFFFL;
            double value = exponent == 0
                    ? scaled(fraction, -1074)
                    : scaled(fraction | 0x10000000000000L, exponent - 1075);
            return bits < 0 ? -value : value;
        }

        private static void demandFinite(boolean good) {
            if (!good) {
                throw new ArithmeticException();
            }
        }

        /** fraction * 2 ^ exponent, in strides, so that it takes few steps. */
        private static double scaled(long fraction, int exponent) {
            double value = (double) fraction;
            int left = exponent < 0 ? -exponent : exponent;
            for (; left > 0; left -= STRIDE) {
                double factor = (double) (1L << (left < STRIDE ? left : STRIDE));
                value = exponent < 0 ? value / factor : value * factor;
            }
            return value;
        }
    }
}
