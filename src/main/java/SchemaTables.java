/**
 * Tables of records on a disk that may stop at any write. Nothing of the tables and the registry is kept
 * beside the disk: every call looks at its blocks, so that a restart has nothing to build up again.
 */
public final class SchemaTables {
    public static final int NONE = -1;
    public static final int FAULT = -2;
    public static final int FULL = -3;
    public static final int DOWN = -4;

    private static final int SUBJECTS = 3;
    private static final int ROW_NUMBERS = 24;
    private static final int READ_NUMBERS = 40;

    private final Schemas schemas;
    private final Disk disk;
    private final Registry registry;
    private final Manifest manifest;
    private final Staging staging;
    private final Row atHand;
    private final Row fetched;
    private final Row found;

    public SchemaTables() {
        Disk empty = new Disk();
        schemas = new Schemas();
        disk = empty;
        registry = new Registry(empty);
        manifest = new Manifest(empty);
        staging = new Staging();
        atHand = new Row(ROW_NUMBERS);
        fetched = new Row(ROW_NUMBERS);
        found = new Row(READ_NUMBERS);
    }

    public int field(int name, int schema, boolean hasDefault, long value) {
        return schemas.addField(name, schemas.find(schema), hasDefault, value);
    }

    public int make(int kind, int name, int a, int b) {
        return schemas.addSchema(kind, name, a, b);
    }

    public boolean canRead(int reader, int writer) {
        Schema r = schemas.find(reader);
        Schema w = schemas.find(writer);
        return r != null && w != null && Schema.reads(r, w);
    }

    public int register(int subject, int schema) {
        if (!disk.isUp) {
            return DOWN;
        }
        Schema reader = schemas.find(schema);
        if (!isSubject(subject) || reader == null) {
            return NONE;
        }
        if (registry.has(subject, schema) || registry.isFull()) {
            return NONE;
        }
        if (!readsVersions(reader, subject)) {
            return FAULT;
        }
        int next = registry.countOf(subject);
        return registry.append(subject, schema) ? next : goDown();
    }

    public int versions(int subject) {
        return isSubject(subject) && disk.isUp ? registry.countOf(subject) : NONE;
    }

    public int version(int subject, int v) {
        return isSubject(subject) && disk.isUp ? registry.schemaOf(subject, v) : NONE;
    }

    public int give(long number) {
        if (!disk.isUp) {
            return DOWN;
        }
        if (atHand.size == ROW_NUMBERS) {
            return NONE;
        }
        atHand.append(number);
        return atHand.size;
    }

    public int stage(int schema) {
        if (!disk.isUp) {
            return DOWN;
        }
        Schema known = schemas.find(schema);
        if (known == null || staging.hasOtherThan(schema)) {
            return NONE;
        }
        int answer = staging.add(schema, known, atHand);
        if (answer >= 0) {
            atHand.clear();
        }
        return answer;
    }

    public int drop() {
        if (!disk.isUp) {
            return DOWN;
        }
        atHand.clear();
        staging.clear();
        return 0;
    }

    public int load(int subject) {
        if (!disk.isUp) {
            return DOWN;
        }
        if (!isSubject(subject) || staging.count == 0 || !registry.has(subject, staging.schema)) {
            return NONE;
        }
        if (manifest.isFull()) {
            return FULL;
        }
        manifest.draftStaged(staging);
        int first = manifest.placeOfDraft();
        if (first == NONE) {
            return FULL;
        }
        if (!manifest.commitNew(subject, first)) {
            return goDown();
        }
        staging.clear();
        return manifest.recordsOf(subject);
    }

    public int compact(int subject) {
        if (!disk.isUp) {
            return DOWN;
        }
        if (!isSubject(subject)) {
            return NONE;
        }
        int earlier = manifest.firstToJoin(subject);
        if (earlier == NONE) {
            return 0;
        }
        int later = manifest.nextFile(subject, earlier + 1);
        manifest.draftJoined(earlier, later);
        int first = manifest.placeOfDraft();
        if (first == NONE) {
            return FULL;
        }
        return manifest.commitJoined(earlier, later, first) ? 1 : goDown();
    }

    public int read(int subject, int k, int schema) {
        found.clear();
        if (!disk.isUp) {
            return DOWN;
        }
        Schema reader = schemas.find(schema);
        if (!isSubject(subject) || reader == null || !registry.has(subject, schema)) {
            return NONE;
        }
        Schema writer = manifest.fetch(subject, k, schemas, fetched);
        if (writer == null) {
            return NONE;
        }
        boolean resolved = Resolver.resolve(writer, reader, fetched, 0, found);
        if (resolved && found.size <= READ_NUMBERS) {
            return found.size;
        }
        found.clear();
        return resolved ? FULL : FAULT;
    }

    public long number(int i) {
        return found.at(i);
    }

    public int records(int subject) {
        return isSubject(subject) && disk.isUp ? manifest.recordsOf(subject) : NONE;
    }

    public int files(int subject) {
        return isSubject(subject) && disk.isUp ? manifest.filesOf(subject) : NONE;
    }

    public int octet(int block, int k) {
        if (block < 0 || block >= Disk.BLOCKS || k < 0 || k >= Disk.BLOCK_BYTES) {
            return NONE;
        }
        return disk.at(Disk.startOf(block) + k);
    }

    public int limit(int writes) {
        if (!disk.isUp) {
            return DOWN;
        }
        if (writes < 0) {
            return NONE;
        }
        disk.writesLeft = writes;
        return 0;
    }

    public boolean restart() {
        boolean wasDown = !disk.isUp;
        disk.isUp = true;
        return wasDown;
    }

    public int writes() {
        return disk.writesMade;
    }

    private static boolean isSubject(int subject) {
        return subject >= 0 && subject < SUBJECTS;
    }

    private boolean readsVersions(Schema reader, int subject) {
        int count = registry.countOf(subject);
        for (int v = 0; v < count; v++) {
            Schema earlier = schemas.find(registry.schemaOf(subject, v));
            if (earlier == null || !Schema.reads(reader, earlier)) {
                return false;
            }
        }
        return true;
    }

    /** The disk has refused a write: what is not on it is lost. */
    private int goDown() {
        atHand.clear();
        staging.clear();
        found.clear();
        return DOWN;
    }

    /** A row of numbers. It counts what does not fit, so that a value that is too long can be told. */
    private static final class Row {
        private final long[] numbers;
        private int size;

        Row(int capacity) {
            numbers = new long[capacity];
            size = 0;
        }

        void append(long number) {
            if (size < numbers.length) {
                numbers[size] = number;
            }
            size++;
        }

        long at(int i) {
            return i >= 0 && i < size && i < numbers.length ? numbers[i] : 0;
        }

        void clear() {
            size = 0;
        }
    }

    /** A row of bytes that are 0 behind its end, as those of a block are. */
    private static final class Bytes {
        private static final int VARINT_BYTES = 10;

        private final int[] octets;
        private int size;

        Bytes(int capacity) {
            octets = new int[capacity];
            size = 0;
        }

        void append(int octet) {
            if (size < octets.length) {
                octets[size] = octet;
                size++;
            }
        }

        void appendVarint(long n) {
            long rest = (n << 1) ^ (n >> 63);
            for (int i = 1; i < VARINT_BYTES && rest >>> 7 != 0; i++) {
                append((int) (rest & 127) + 128);
                rest = rest >>> 7;
            }
            append((int) rest);
        }

        int at(int i) {
            return i >= 0 && i < size ? octets[i] : 0;
        }

        void cutTo(int length) {
            size = length;
        }

        int sum() {
            int sum = 0;
            for (int i = 0; i < size; i++) {
                sum += octets[i];
            }
            return sum;
        }
    }

    private static final class Field {
        private final int name;
        private final Schema schema;
        private final boolean hasDefault;
        private final long value;

        Field(int name, Schema schema, boolean hasDefault, long value) {
            this.name = name;
            this.schema = schema;
            this.hasDefault = hasDefault;
            this.value = value;
        }
    }

    private static final class Schema {
        private static final int NULL = 0;
        private static final int BOOLEAN = 1;
        private static final int INT = 2;
        private static final int LONG = 3;
        private static final int ENUM = 4;
        private static final int ARRAY = 5;
        private static final int UNION = 6;
        private static final int RECORD = 7;
        private static final int NAMES = 8;
        private static final int ITEMS = 3;

        private final int kind;
        private final int name;
        private final int symbols;
        private final int otherSymbol;
        /** The item of an ARRAY, or branch 0 of a UNION. */
        private final Schema first;
        /** Branch 1 of a UNION. */
        private final Schema second;
        private final Field[] fields;
        private final int depth;

        private Schema(int kind, int name, int symbols, int otherSymbol, Schema first, Schema second, Field[] fields) {
            this.kind = kind;
            this.name = name;
            this.symbols = symbols;
            this.otherSymbol = otherSymbol;
            this.first = first;
            this.second = second;
            this.fields = fields;
            depth = depthAbove(first, second, fields);
        }

        static Schema ofPlain(int kind) {
            return new Schema(kind, 0, 0, NONE, null, null, new Field[0]);
        }

        static Schema ofEnum(int name, int symbols, int otherSymbol) {
            return new Schema(ENUM, name, symbols, otherSymbol, null, null, new Field[0]);
        }

        static Schema ofArray(Schema item) {
            return new Schema(ARRAY, 0, 0, NONE, item, null, new Field[0]);
        }

        static Schema ofUnion(Schema first, Schema second) {
            return new Schema(UNION, 0, 0, NONE, first, second, new Field[0]);
        }

        static Schema ofRecord(int name, Field[] fields) {
            return new Schema(RECORD, name, 0, NONE, null, null, fields);
        }

        private static int depthAbove(Schema first, Schema second, Field[] fields) {
            int deepest = 0;
            if (first != null) {
                deepest = first.depth;
            }
            if (second != null) {
                deepest = Math.max(deepest, second.depth);
            }
            for (int i = 0; i < fields.length; i++) {
                deepest = Math.max(deepest, fields[i].schema.depth);
            }
            return deepest + 1;
        }

        static boolean isName(long name) {
            return name >= 0 && name < NAMES;
        }

        boolean hasSymbol(long symbol) {
            return isName(symbol) && (symbols >> (int) symbol & 1) == 1;
        }

        int rankOf(int symbol) {
            return Integer.bitCount(symbols & ((1 << symbol) - 1));
        }

        int symbolOfRank(int rank) {
            for (int symbol = 0; symbol < NAMES; symbol++) {
                if (hasSymbol(symbol) && rankOf(symbol) == rank) {
                    return symbol;
                }
            }
            return NONE;
        }

        Schema branch(long number) {
            return number == 0 ? first : second;
        }

        Field fieldOf(int fieldName) {
            for (int i = 0; i < fields.length; i++) {
                if (fields[i].name == fieldName) {
                    return fields[i];
                }
            }
            return null;
        }

        /** Whether a number alone is a value, of one of the kinds whose values are just one number. */
        boolean isValue(long number) {
            switch (kind) {
                case BOOLEAN:
                    return number == 0 || number == 1;
                case INT:
                    return number == (int) number;
                case LONG:
                    return true;
                case ENUM:
                    return hasSymbol(number);
                default:
                    return false;
            }
        }

        private static boolean isDefault(Schema schema, long number) {
            switch (schema.kind) {
                case NULL:
                case ARRAY:
                    return number == 0;
                case UNION:
                    return isDefault(schema.first, number);
                default:
                    return schema.isValue(number);
            }
        }

        static boolean haveFittingKinds(Schema r, Schema w) {
            return w.kind == r.kind || w.kind == INT && r.kind == LONG;
        }

        private static boolean match(Schema w, Schema r) {
            if (w.kind == UNION || r.kind == UNION) {
                return true;
            }
            if (!haveFittingKinds(r, w)) {
                return false;
            }
            switch (r.kind) {
                case ENUM:
                case RECORD:
                    return w.name == r.name;
                case ARRAY:
                    return match(w.first, r.first);
                default:
                    return true;
            }
        }

        /** The first branch of a UNION that a writer's schema matches, or NONE. */
        static int matchingBranch(Schema union, Schema w) {
            if (match(w, union.first)) {
                return 0;
            }
            return match(w, union.second) ? 1 : NONE;
        }

        private static boolean reads(Schema r, Schema w) {
            if (w.kind == UNION) {
                return reads(r, w.first) && reads(r, w.second);
            }
            if (r.kind == UNION) {
                int branch = matchingBranch(r, w);
                return branch != NONE && reads(r.branch(branch), w);
            }
            if (!haveFittingKinds(r, w)) {
                return false;
            }
            switch (r.kind) {
                case ENUM:
                    return r.name == w.name && (r.otherSymbol != NONE || (w.symbols & ~r.symbols) == 0);
                case ARRAY:
                    return reads(r.first, w.first);
                case RECORD:
                    return r.name == w.name && readsFields(r, w);
                default:
                    return true;
            }
        }

        private static boolean readsFields(Schema r, Schema w) {
            for (int i = 0; i < r.fields.length; i++) {
                Field wanted = r.fields[i];
                Field written = w.fieldOf(wanted.name);
                boolean readable = written == null ? wanted.hasDefault : reads(wanted.schema, written.schema);
                if (!readable) {
                    return false;
                }
            }
            return true;
        }
    }

    /** All schemas that were made, and the fields of the record that is made next. */
    private static final class Schemas {
        private static final int MOST_SCHEMAS = 24;
        private static final int MOST_FIELDS = 3;
        private static final int MOST_DEPTH = 6;
        private static final int MOST_SYMBOLS = 255;

        private final Schema[] known;
        private final Field[] pending;
        private int knownCount;
        private int pendingCount;

        Schemas() {
            known = new Schema[MOST_SCHEMAS];
            pending = new Field[MOST_FIELDS];
            knownCount = 0;
            pendingCount = 0;
        }

        Schema find(int schema) {
            return schema >= 0 && schema < knownCount ? known[schema] : null;
        }

        int addField(int name, Schema schema, boolean hasDefault, long value) {
            if (pendingCount == MOST_FIELDS || !Schema.isName(name) || isPending(name) || schema == null) {
                return NONE;
            }
            if (hasDefault && !Schema.isDefault(schema, value)) {
                return NONE;
            }
            pending[pendingCount] = new Field(name, schema, hasDefault, value);
            pendingCount++;
            return pendingCount;
        }

        int addSchema(int kind, int name, int a, int b) {
            if (knownCount == MOST_SCHEMAS) {
                return NONE;
            }
            Schema built = build(kind, name, a, b);
            if (built == null || built.depth > MOST_DEPTH) {
                return NONE;
            }
            if (kind == Schema.RECORD) {
                pendingCount = 0;
            }
            known[knownCount] = built;
            knownCount++;
            return knownCount - 1;
        }

        private boolean isPending(int name) {
            for (int i = 0; i < pendingCount; i++) {
                if (pending[i].name == name) {
                    return true;
                }
            }
            return false;
        }

        /** The schema that is asked for, perhaps too deep; null when it is not as the document says. */
        private Schema build(int kind, int name, int a, int b) {
            switch (kind) {
                case Schema.NULL:
                case Schema.BOOLEAN:
                case Schema.INT:
                case Schema.LONG:
                    return Schema.ofPlain(kind);
                case Schema.ENUM:
                    return buildEnum(name, a, b);
                case Schema.ARRAY:
                    return buildArray(find(a));
                case Schema.UNION:
                    return buildUnion(find(a), find(b));
                case Schema.RECORD:
                    return buildRecord(name);
                default:
                    return null;
            }
        }

        private static Schema buildEnum(int name, int symbols, int otherSymbol) {
            if (!Schema.isName(name) || symbols < 1 || symbols > MOST_SYMBOLS) {
                return null;
            }
            Schema built = Schema.ofEnum(name, symbols, otherSymbol);
            return otherSymbol == NONE || built.hasSymbol(otherSymbol) ? built : null;
        }

        private static Schema buildArray(Schema item) {
            return item == null ? null : Schema.ofArray(item);
        }

        private static Schema buildUnion(Schema first, Schema second) {
            if (first == null || second == null) {
                return null;
            }
            if (first.kind == Schema.UNION || second.kind == Schema.UNION) {
                return null;
            }
            boolean canBeTold = first.kind != second.kind || haveDifferentNames(first, second);
            return canBeTold ? Schema.ofUnion(first, second) : null;
        }

        private static boolean haveDifferentNames(Schema first, Schema second) {
            boolean isNamed = first.kind == Schema.ENUM || first.kind == Schema.RECORD;
            return isNamed && first.name != second.name;
        }

        private Schema buildRecord(int name) {
            if (!Schema.isName(name)) {
                return null;
            }
            Field[] fields = new Field[pendingCount];
            for (int i = 0; i < pendingCount; i++) {
                fields[i] = pending[i];
            }
            return Schema.ofRecord(name, fields);
        }
    }

    /** Blocks that are written whole or not at all, until the limit stops the machine. */
    private static final class Disk {
        private static final int BLOCKS = 40;
        private static final int BLOCK_BYTES = 32;
        private static final int UNLIMITED = -1;

        private final int[] octets;
        private boolean isUp;
        private int writesLeft;
        private int writesMade;

        Disk() {
            octets = new int[BLOCKS * BLOCK_BYTES];
            isUp = true;
            writesLeft = UNLIMITED;
            writesMade = 0;
        }

        static int startOf(int block) {
            return block * BLOCK_BYTES;
        }

        static int blocksFor(int bytes) {
            return (bytes + BLOCK_BYTES - 1) / BLOCK_BYTES;
        }

        int at(int place) {
            return place >= 0 && place < octets.length ? octets[place] : 0;
        }

        private void set(int place, int octet) {
            if (place >= 0 && place < octets.length) {
                octets[place] = octet;
            }
        }

        /** Writes one block from a place of the bytes on; false when the machine goes down instead. */
        boolean put(int block, Bytes bytes, int from) {
            if (writesLeft == 0) {
                isUp = false;
                writesLeft = UNLIMITED;
                return false;
            }
            for (int i = 0; i < BLOCK_BYTES; i++) {
                set(startOf(block) + i, bytes.at(from + i));
            }
            if (writesLeft != UNLIMITED) {
                writesLeft--;
            }
            writesMade++;
            return true;
        }

        boolean putAll(int firstBlock, Bytes bytes) {
            int blocks = blocksFor(bytes.size);
            for (int i = 0; i < blocks; i++) {
                if (!put(firstBlock + i, bytes, startOf(i))) {
                    return false;
                }
            }
            return true;
        }
    }

    /** Block 1: which schemas are registered under which subjects. */
    private static final class Registry {
        private static final int BLOCK = 1;
        private static final int ENTRY_BYTES = 2;
        private static final int MOST_ENTRIES = 10;

        private final Disk disk;
        private final Bytes draft;

        Registry(Disk disk) {
            this.disk = disk;
            draft = new Bytes(Disk.BLOCK_BYTES);
        }

        boolean isFull() {
            return entries() >= MOST_ENTRIES;
        }

        boolean has(int subject, int schema) {
            int count = entries();
            for (int i = 0; i < count; i++) {
                if (entryByte(i, 0) == subject && entryByte(i, 1) == schema) {
                    return true;
                }
            }
            return false;
        }

        int countOf(int subject) {
            int count = entries();
            int found = 0;
            for (int i = 0; i < count; i++) {
                if (entryByte(i, 0) == subject) {
                    found++;
                }
            }
            return found;
        }

        int schemaOf(int subject, int v) {
            int count = entries();
            int passed = 0;
            for (int i = 0; i < count; i++) {
                if (entryByte(i, 0) == subject) {
                    if (passed == v) {
                        return entryByte(i, 1);
                    }
                    passed++;
                }
            }
            return NONE;
        }

        /** One write of the block; false when the machine goes down instead. */
        boolean append(int subject, int schema) {
            int count = entries();
            draft.cutTo(0);
            draft.append(count + 1);
            for (int i = 0; i < count; i++) {
                draft.append(entryByte(i, 0));
                draft.append(entryByte(i, 1));
            }
            draft.append(subject);
            draft.append(schema);
            return disk.put(BLOCK, draft, 0);
        }

        private int entries() {
            return disk.at(Disk.startOf(BLOCK));
        }

        private int entryByte(int entry, int k) {
            return disk.at(Disk.startOf(BLOCK) + 1 + entry * ENTRY_BYTES + k);
        }
    }

    /** The records that wait for a load: all of one schema, coded, one behind the other. */
    private static final class Staging {
        private static final int MOST_RECORDS = 10;
        private static final int MOST_BYTES = 150;

        /** Has room for one record more than may be staged: what is too long is coded first, then cut off. */
        private final Bytes coded;
        private int schema;
        private int count;

        Staging() {
            coded = new Bytes(MOST_BYTES + ROW_NUMBERS * Bytes.VARINT_BYTES);
            schema = NONE;
            count = 0;
        }

        boolean hasOtherThan(int wanted) {
            return count > 0 && schema != wanted;
        }

        /** How many bytes the row has, coded; NONE when it is no value of the schema, FULL when it has no room. */
        int add(int number, Schema known, Row row) {
            int before = coded.size;
            if (Coder.encode(known, row, 0, coded) != row.size) {
                coded.cutTo(before);
                return NONE;
            }
            if (count == MOST_RECORDS || coded.size > MOST_BYTES) {
                coded.cutTo(before);
                return FULL;
            }
            schema = number;
            count++;
            return coded.size - before;
        }

        void clear() {
            coded.cutTo(0);
            schema = NONE;
            count = 0;
        }
    }

    /** Block 0, and the files that it has: the tables of all subjects. */
    private static final class Manifest {
        private static final int BLOCK = 0;
        private static final int FIRST_FILE_BLOCK = 2;
        private static final int ENTRY_BYTES = 3;
        private static final int MOST_FILES = 9;
        private static final int FILE_MARK = 83;
        private static final int HEAD_BYTES = 5;
        private static final int SUM_MODULUS = 251;
        private static final int MOST_JOINED_RECORDS = 20;
        private static final int MOST_JOINED_BYTES = 200;

        private final Disk disk;
        /** The bytes of the file that is to be written. */
        private final Bytes file;
        /** The bytes of the manifest that is to be written. */
        private final Bytes draft;

        Manifest(Disk disk) {
            this.disk = disk;
            file = new Bytes(HEAD_BYTES + MOST_JOINED_BYTES + 1);
            draft = new Bytes(Disk.BLOCK_BYTES);
        }

        boolean isFull() {
            return entries() >= MOST_FILES;
        }

        int filesOf(int subject) {
            int count = entries();
            int found = 0;
            for (int i = 0; i < count; i++) {
                if (subjectOf(i) == subject) {
                    found++;
                }
            }
            return found;
        }

        int recordsOf(int subject) {
            int count = entries();
            int found = 0;
            for (int i = 0; i < count; i++) {
                if (subjectOf(i) == subject) {
                    found += recordsIn(i);
                }
            }
            return found;
        }

        /** The first file of a subject from an entry on, or NONE. */
        int nextFile(int subject, int from) {
            int count = entries();
            for (int i = from; i < count; i++) {
                if (subjectOf(i) == subject) {
                    return i;
                }
            }
            return NONE;
        }

        /** The earlier file of the first pair that can be joined, or NONE. */
        int firstToJoin(int subject) {
            int count = entries();
            for (int i = 0; i < count; i++) {
                if (subjectOf(i) == subject) {
                    int next = nextFile(subject, i + 1);
                    if (next != NONE && canJoin(i, next)) {
                        return i;
                    }
                }
            }
            return NONE;
        }

        private boolean canJoin(int earlier, int later) {
            return schemaOf(earlier) == schemaOf(later)
                && recordsIn(earlier) + recordsIn(later) <= MOST_JOINED_RECORDS
                && bytesIn(earlier) + bytesIn(later) <= MOST_JOINED_BYTES;
        }

        /** Fills a row with the numbers of record k of a subject; answers its schema, or null if there is none. */
        Schema fetch(int subject, int k, Schemas schemas, Row into) {
            if (k < 0) {
                return null;
            }
            int count = entries();
            int before = 0;
            for (int i = 0; i < count; i++) {
                if (subjectOf(i) == subject) {
                    if (k - before < recordsIn(i)) {
                        Schema writer = schemas.find(schemaOf(i));
                        decodeRecord(i, k - before, writer, into);
                        return writer;
                    }
                    before += recordsIn(i);
                }
            }
            return null;
        }

        private void decodeRecord(int entry, int k, Schema writer, Row into) {
            int place = startOfFile(entry) + HEAD_BYTES;
            for (int i = 0; i <= k && writer != null; i++) {
                into.clear();
                place = Coder.decode(writer, disk, place, into);
            }
        }

        void draftStaged(Staging staging) {
            draftHead(staging.schema, staging.count, staging.coded.size);
            for (int i = 0; i < staging.coded.size; i++) {
                file.append(staging.coded.at(i));
            }
            file.append(file.sum() % SUM_MODULUS);
        }

        void draftJoined(int earlier, int later) {
            int joinedRecords = recordsIn(earlier) + recordsIn(later);
            draftHead(schemaOf(earlier), joinedRecords, bytesIn(earlier) + bytesIn(later));
            draftRecordsOf(earlier);
            draftRecordsOf(later);
            file.append(file.sum() % SUM_MODULUS);
        }

        private void draftHead(int schema, int recordCount, int byteCount) {
            file.cutTo(0);
            file.append(FILE_MARK);
            file.append(schema);
            file.append(recordCount);
            file.append(byteCount >> 8);
            file.append(byteCount & 255);
        }

        private void draftRecordsOf(int entry) {
            int place = startOfFile(entry) + HEAD_BYTES;
            int count = bytesIn(entry);
            for (int i = 0; i < count; i++) {
                file.append(disk.at(place + i));
            }
        }

        /** The least first block from which on enough blocks for the drafted file are free, or NONE. */
        int placeOfDraft() {
            int needed = Disk.blocksFor(file.size);
            int run = 0;
            for (int block = FIRST_FILE_BLOCK; block < Disk.BLOCKS; block++) {
                run = isFree(block) ? run + 1 : 0;
                if (run == needed) {
                    return block - needed + 1;
                }
            }
            return NONE;
        }

        private boolean isFree(int block) {
            int count = entries();
            for (int i = 0; i < count; i++) {
                if (block >= firstBlockOf(i) && block < firstBlockOf(i) + blocksOf(i)) {
                    return false;
                }
            }
            return true;
        }

        /** Writes the drafted file and the manifest with it; false when the machine goes down before. */
        boolean commitNew(int subject, int firstBlock) {
            int count = entries();
            draft.cutTo(0);
            draft.append(count + 1);
            for (int i = 0; i < count; i++) {
                draftEntry(subjectOf(i), firstBlockOf(i), blocksOf(i));
            }
            draftEntry(subject, firstBlock, Disk.blocksFor(file.size));
            return disk.putAll(firstBlock, file) && disk.put(BLOCK, draft, 0);
        }

        /** As commitNew, with the drafted file in place of the earlier one, and without the later one. */
        boolean commitJoined(int earlier, int later, int firstBlock) {
            int count = entries();
            draft.cutTo(0);
            draft.append(count - 1);
            for (int i = 0; i < count; i++) {
                if (i == earlier) {
                    draftEntry(subjectOf(i), firstBlock, Disk.blocksFor(file.size));
                } else if (i != later) {
                    draftEntry(subjectOf(i), firstBlockOf(i), blocksOf(i));
                }
            }
            return disk.putAll(firstBlock, file) && disk.put(BLOCK, draft, 0);
        }

        private void draftEntry(int subject, int firstBlock, int blocks) {
            draft.append(subject);
            draft.append(firstBlock);
            draft.append(blocks);
        }

        private int entries() {
            return disk.at(Disk.startOf(BLOCK));
        }

        private int entryByte(int entry, int k) {
            return disk.at(Disk.startOf(BLOCK) + 1 + entry * ENTRY_BYTES + k);
        }

        private int subjectOf(int entry) {
            return entryByte(entry, 0);
        }

        private int firstBlockOf(int entry) {
            return entryByte(entry, 1);
        }

        private int blocksOf(int entry) {
            return entryByte(entry, 2);
        }

        private int startOfFile(int entry) {
            return Disk.startOf(firstBlockOf(entry));
        }

        private int schemaOf(int entry) {
            return disk.at(startOfFile(entry) + 1);
        }

        private int recordsIn(int entry) {
            return disk.at(startOfFile(entry) + 2);
        }

        private int bytesIn(int entry) {
            return disk.at(startOfFile(entry) + 3) * 256 + disk.at(startOfFile(entry) + 4);
        }
    }

    /** Values as bytes, and bytes as values. */
    private static final class Coder {
        /** Codes the value that begins at a place of the row; answers the place behind it, or NONE if none is there. */
        private static int encode(Schema schema, Row row, int at, Bytes out) {
            if (schema.kind == Schema.NULL) {
                return at;
            }
            if (schema.kind == Schema.RECORD) {
                return encodeFields(schema, row, at, out);
            }
            if (at >= row.size) {
                return NONE;
            }
            long number = row.at(at);
            if (schema.kind == Schema.ARRAY) {
                return encodeItems(schema.first, row, at, out);
            }
            if (schema.kind == Schema.UNION) {
                if (number != 0 && number != 1) {
                    return NONE;
                }
                out.appendVarint(number);
                return encode(schema.branch(number), row, at + 1, out);
            }
            if (!schema.isValue(number)) {
                return NONE;
            }
            encodeNumber(schema, number, out);
            return at + 1;
        }

        private static void encodeNumber(Schema schema, long number, Bytes out) {
            switch (schema.kind) {
                case Schema.BOOLEAN:
                    out.append((int) number);
                    break;
                case Schema.ENUM:
                    out.appendVarint(schema.rankOf((int) number));
                    break;
                default:
                    out.appendVarint(number);
                    break;
            }
        }

        private static int encodeItems(Schema item, Row row, int at, Bytes out) {
            long count = row.at(at);
            if (count < 0 || count > Schema.ITEMS) {
                return NONE;
            }
            if (count > 0) {
                out.appendVarint(count);
            }
            int next = at + 1;
            for (int i = 0; i < count && next != NONE; i++) {
                next = encode(item, row, next, out);
            }
            out.append(0);
            return next;
        }

        private static int encodeFields(Schema schema, Row row, int at, Bytes out) {
            int next = at;
            for (int i = 0; i < schema.fields.length && next != NONE; i++) {
                next = encode(schema.fields[i].schema, row, next, out);
            }
            return next;
        }

        /** Appends the value that is coded at a place of the disk; answers the place behind it. */
        private static int decode(Schema schema, Disk disk, int place, Row out) {
            switch (schema.kind) {
                case Schema.NULL:
                    return place;
                case Schema.BOOLEAN:
                    out.append(disk.at(place));
                    return place + 1;
                case Schema.ENUM:
                    out.append(schema.symbolOfRank((int) varintAt(disk, place)));
                    return behindVarint(disk, place);
                case Schema.ARRAY:
                    return decodeItems(schema.first, disk, place, out);
                case Schema.UNION:
                    long branch = varintAt(disk, place);
                    out.append(branch);
                    return decode(schema.branch(branch), disk, behindVarint(disk, place), out);
                case Schema.RECORD:
                    return decodeFields(schema, disk, place, out);
                default:
                    out.append(varintAt(disk, place));
                    return behindVarint(disk, place);
            }
        }

        private static int decodeItems(Schema item, Disk disk, int place, Row out) {
            long count = varintAt(disk, place);
            out.append(count);
            if (count == 0) {
                return place + 1;
            }
            int next = behindVarint(disk, place);
            for (int i = 0; i < count && i < Schema.ITEMS; i++) {
                next = decode(item, disk, next, out);
            }
            return next + 1;
        }

        private static int decodeFields(Schema schema, Disk disk, int place, Row out) {
            int next = place;
            for (int i = 0; i < schema.fields.length; i++) {
                next = decode(schema.fields[i].schema, disk, next, out);
            }
            return next;
        }

        private static long varintAt(Disk disk, int place) {
            int length = behindVarint(disk, place) - place;
            long bits = 0;
            for (int i = 0; i < length; i++) {
                bits |= (long) (disk.at(place + i) & 127) << 7 * i;
            }
            return (bits >>> 1) ^ -(bits & 1);
        }

        private static int behindVarint(Disk disk, int place) {
            int last = place;
            for (int i = 1; i < Bytes.VARINT_BYTES && disk.at(last) >= 128; i++) {
                last++;
            }
            return last + 1;
        }
    }

    /** Values of a writer's schema as values of a reader's. */
    private static final class Resolver {
        /** Appends what the value at a place of the row is under the reader's schema; false when it is a fault. */
        private static boolean resolve(Schema w, Schema r, Row in, int at, Row out) {
            if (w.kind == Schema.UNION) {
                return resolve(w.branch(in.at(at)), r, in, at + 1, out);
            }
            if (r.kind == Schema.UNION) {
                return resolveIntoUnion(w, r, in, at, out);
            }
            if (!Schema.haveFittingKinds(r, w)) {
                return false;
            }
            switch (r.kind) {
                case Schema.NULL:
                    return true;
                case Schema.ENUM:
                    return resolveSymbol(w, r, in.at(at), out);
                case Schema.ARRAY:
                    return resolveItems(w.first, r.first, in, at, out);
                case Schema.RECORD:
                    return resolveFields(w, r, in, at, out);
                default:
                    out.append(in.at(at));
                    return true;
            }
        }

        private static boolean resolveIntoUnion(Schema w, Schema r, Row in, int at, Row out) {
            int branch = Schema.matchingBranch(r, w);
            if (branch == NONE) {
                return false;
            }
            out.append(branch);
            return resolve(w, r.branch(branch), in, at, out);
        }

        private static boolean resolveSymbol(Schema w, Schema r, long symbol, Row out) {
            boolean isKnown = r.hasSymbol(symbol);
            if (w.name != r.name || !isKnown && r.otherSymbol == NONE) {
                return false;
            }
            out.append(isKnown ? symbol : r.otherSymbol);
            return true;
        }

        private static boolean resolveItems(Schema w, Schema r, Row in, int at, Row out) {
            long count = in.at(at);
            out.append(count);
            int next = at + 1;
            for (int i = 0; i < count && i < Schema.ITEMS; i++) {
                if (!resolve(w, r, in, next, out)) {
                    return false;
                }
                next = behind(w, in, next);
            }
            return true;
        }

        private static boolean resolveFields(Schema w, Schema r, Row in, int at, Row out) {
            if (w.name != r.name) {
                return false;
            }
            for (int i = 0; i < r.fields.length; i++) {
                if (!resolveField(w, r.fields[i], in, at, out)) {
                    return false;
                }
            }
            return true;
        }

        private static boolean resolveField(Schema w, Field wanted, Row in, int at, Row out) {
            int next = at;
            for (int i = 0; i < w.fields.length; i++) {
                Field written = w.fields[i];
                if (written.name == wanted.name) {
                    return resolve(written.schema, wanted.schema, in, next, out);
                }
                next = behind(written.schema, in, next);
            }
            if (wanted.hasDefault) {
                appendDefault(wanted.schema, wanted.value, out);
            }
            return wanted.hasDefault;
        }

        private static void appendDefault(Schema schema, long number, Row out) {
            if (schema.kind == Schema.UNION) {
                out.append(0);
                appendDefault(schema.first, number, out);
            } else if (schema.kind != Schema.NULL) {
                // the number of an ARRAY's default is 0, which is its count, too
                out.append(number);
            }
        }

        /** The place behind the value of a schema that begins at a place of the row. */
        private static int behind(Schema schema, Row in, int at) {
            switch (schema.kind) {
                case Schema.NULL:
                    return at;
                case Schema.ARRAY:
                    return behindItems(schema.first, in, at);
                case Schema.UNION:
                    return behind(schema.branch(in.at(at)), in, at + 1);
                case Schema.RECORD:
                    return behindFields(schema, in, at);
                default:
                    return at + 1;
            }
        }

        private static int behindItems(Schema item, Row in, int at) {
            long count = in.at(at);
            int next = at + 1;
            for (int i = 0; i < count && i < Schema.ITEMS; i++) {
                next = behind(item, in, next);
            }
            return next;
        }

        private static int behindFields(Schema schema, Row in, int at) {
            int next = at;
            for (int i = 0; i < schema.fields.length; i++) {
                next = behind(schema.fields[i].schema, in, next);
            }
            return next;
        }
    }
}
