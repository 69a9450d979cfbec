import java.io.ByteArrayOutputStream;
import java.math.BigInteger;
import java.util.ArrayList;
import java.util.LinkedHashMap;
import java.util.List;
import java.util.Map;

/**
 * A second program from the document, without a thought of speed: values are trees, tables are lists of files with
 * their values, and the disk is written but never looked at.
 */
final class Model {
    private static final int NONE = -1;
    private static final int FAULT = -2;
    private static final int FULL = -3;
    private static final int DOWN = -4;

    record Def(int kind, int name, int symbols, int fallback, List<Integer> parts, List<Member> members) { }

    record Member(int name, int schema, boolean hasDefault, long value) { }

    record Choice(int branch, Object value) { }

    record Stored(int subject, int first, int blocks, int schema, List<Object> values) { }

    record Entry(int subject, int schema) { }

    /** Not a value, or not readable. */
    private static final class Bad extends RuntimeException {
        private static final long serialVersionUID = 1L;
    }

    /** The machine stops. */
    private static final class Stop extends RuntimeException {
        private static final long serialVersionUID = 1L;
    }

    final List<Def> defs = new ArrayList<>();
    final List<Member> waiting = new ArrayList<>();
    final List<Entry> registered = new ArrayList<>();
    final List<Long> row = new ArrayList<>();
    final byte[][] disk = new byte[40][32];
    List<Stored> stored = new ArrayList<>();
    List<Object> stagedValues = new ArrayList<>();
    int stagedSchema = NONE;
    List<Long> latest = new ArrayList<>();
    boolean up = true;
    Integer left = null;
    int made = 0;

    int field(int name, int schema, boolean hasDefault, long value) {
        boolean taken = waiting.stream().anyMatch(m -> m.name == name);
        if (waiting.size() == 3 || name < 0 || name > 7 || taken || !known(schema)) {
            return NONE;
        }
        if (hasDefault && !isDefault(schema, value)) {
            return NONE;
        }
        waiting.add(new Member(name, schema, hasDefault, value));
        return waiting.size();
    }

    private boolean known(int schema) {
        return schema >= 0 && schema < defs.size();
    }

    private boolean isDefault(int schema, long d) {
        try {
            List<Long> numbers = defaultNumbers(schema, d);
            Object value = parse(schema, numbers);
            boolean unused = defs.get(schema).kind == 0 || defs.get(schema).kind == 5
                || defs.get(schema).kind == 6 && List.of(0, 5).contains(defs.get(defs.get(schema).parts.get(0)).kind);
            return flat(schema, value).equals(numbers) && (!unused || d == 0);
        } catch (Bad e) {
            return false;
        }
    }

    private List<Long> defaultNumbers(int schema, long d) {
        Def def = defs.get(schema);
        List<Long> numbers = new ArrayList<>();
        switch (def.kind) {
            case 0 -> { }
            case 1, 2, 3, 4 -> numbers.add(d);
            case 5 -> numbers.add(0L);
            case 6 -> {
                numbers.add(0L);
                numbers.addAll(defaultNumbers(def.parts.get(0), d));
            }
            default -> throw new Bad();
        }
        return numbers;
    }

    int make(int kind, int name, int a, int b) {
        if (defs.size() == 24) {
            return NONE;
        }
        Def def;
        if (kind >= 0 && kind <= 3) {
            def = new Def(kind, 0, 0, NONE, List.of(), List.of());
        } else if (kind == 4 && name >= 0 && name <= 7 && a >= 1 && a <= 255
            && (b == NONE || b >= 0 && b <= 7 && BigInteger.valueOf(a).testBit(b))) {
            def = new Def(kind, name, a, b, List.of(), List.of());
        } else if (kind == 5 && known(a)) {
            def = new Def(kind, 0, 0, NONE, List.of(a), List.of());
        } else if (kind == 6 && known(a) && known(b) && goUnion(defs.get(a), defs.get(b))) {
            def = new Def(kind, 0, 0, NONE, List.of(a, b), List.of());
        } else if (kind == 7 && name >= 0 && name <= 7) {
            def = new Def(kind, name, 0, NONE, List.of(), List.copyOf(waiting));
        } else {
            return NONE;
        }
        if (depth(def) > 6) {
            return NONE;
        }
        if (kind == 7) {
            waiting.clear();
        }
        defs.add(def);
        return defs.size() - 1;
    }

    private boolean goUnion(Def one, Def two) {
        if (one.kind == 6 || two.kind == 6) {
            return false;
        }
        if (one.kind != two.kind) {
            return true;
        }
        return (one.kind == 4 || one.kind == 7) && one.name != two.name;
    }

    private int depth(Def def) {
        int below = 0;
        for (int part : def.parts) {
            below = Math.max(below, depth(defs.get(part)));
        }
        for (Member m : def.members) {
            below = Math.max(below, depth(defs.get(m.schema)));
        }
        return 1 + below;
    }

    boolean canRead(int reader, int writer) {
        return known(reader) && known(writer) && can(defs.get(reader), defs.get(writer));
    }

    private boolean kinds(Def w, Def r) {
        return w.kind == r.kind || w.kind == 2 && r.kind == 3;
    }

    private boolean matches(Def w, Def r) {
        if (w.kind == 6 || r.kind == 6) {
            return true;
        }
        boolean same = kinds(w, r);
        if (same && (w.kind == 4 || w.kind == 7)) {
            same = w.name == r.name;
        }
        if (same && w.kind == 5) {
            same = matches(defs.get(w.parts.get(0)), defs.get(r.parts.get(0)));
        }
        return same;
    }

    private boolean can(Def r, Def w) {
        if (w.kind == 6) {
            return w.parts.stream().allMatch(part -> can(r, defs.get(part)));
        }
        if (r.kind == 6) {
            return r.parts.stream().map(defs::get).filter(part -> matches(w, part)).limit(1).anyMatch(part -> can(part, w));
        }
        if (!kinds(w, r)) {
            return false;
        }
        if (r.kind == 4) {
            return r.name == w.name && (r.fallback != NONE || (r.symbols | w.symbols) == r.symbols);
        }
        if (r.kind == 5) {
            return can(defs.get(r.parts.get(0)), defs.get(w.parts.get(0)));
        }
        if (r.kind == 7) {
            return r.name == w.name && r.members.stream().allMatch(m -> canMember(m, w));
        }
        return true;
    }

    private boolean canMember(Member wanted, Def w) {
        for (Member m : w.members) {
            if (m.name == wanted.name) {
                return can(defs.get(wanted.schema), defs.get(m.schema));
            }
        }
        return wanted.hasDefault;
    }

    /** A value as a tree: "" for NULL, Long, List for ARRAY, Choice for UNION, Map by field name for RECORD. */
    private Object parse(int schema, List<Long> numbers) {
        List<Long> rest = new ArrayList<>(numbers);
        Object value = take(schema, rest);
        if (!rest.isEmpty()) {
            throw new Bad();
        }
        return value;
    }

    private long next(List<Long> rest, long least, long most) {
        if (rest.isEmpty() || rest.get(0) < least || rest.get(0) > most) {
            throw new Bad();
        }
        return rest.remove(0);
    }

    private Object take(int schema, List<Long> rest) {
        Def def = defs.get(schema);
        switch (def.kind) {
            case 0:
                return "";
            case 1:
                return next(rest, 0, 1);
            case 2:
                return next(rest, Integer.MIN_VALUE, Integer.MAX_VALUE);
            case 3:
                return next(rest, Long.MIN_VALUE, Long.MAX_VALUE);
            case 4:
                long symbol = next(rest, 0, 7);
                if (!BigInteger.valueOf(def.symbols).testBit((int) symbol)) {
                    throw new Bad();
                }
                return symbol;
            case 5:
                List<Object> items = new ArrayList<>();
                for (long n = next(rest, 0, 3); n > 0; n--) {
                    items.add(take(def.parts.get(0), rest));
                }
                return items;
            case 6:
                int branch = (int) next(rest, 0, 1);
                return new Choice(branch, take(def.parts.get(branch), rest));
            default:
                Map<Integer, Object> values = new LinkedHashMap<>();
                for (Member m : def.members) {
                    values.put(m.name, take(m.schema, rest));
                }
                return values;
        }
    }

    private List<Long> flat(int schema, Object value) {
        Def def = defs.get(schema);
        List<Long> numbers = new ArrayList<>();
        if (value instanceof Long n) {
            numbers.add(n);
        } else if (value instanceof List<?> items) {
            numbers.add((long) items.size());
            items.forEach(item -> numbers.addAll(flat(def.parts.get(0), item)));
        } else if (value instanceof Choice choice) {
            numbers.add((long) choice.branch);
            numbers.addAll(flat(def.parts.get(choice.branch), choice.value));
        } else if (value instanceof Map<?, ?> values) {
            def.members.forEach(m -> numbers.addAll(flat(m.schema, values.get(m.name))));
        }
        return numbers;
    }

    private byte[] code(int schema, Object value) {
        Def def = defs.get(schema);
        ByteArrayOutputStream out = new ByteArrayOutputStream();
        if (value instanceof Long n) {
            if (def.kind == 1) {
                out.write(n.intValue());
            } else if (def.kind == 4) {
                int less = 0;
                for (int s = 0; s < n; s++) {
                    less += def.symbols >> s & 1;
                }
                out.writeBytes(varint(less));
            } else {
                out.writeBytes(varint(n));
            }
        } else if (value instanceof List<?> items) {
            if (!items.isEmpty()) {
                out.writeBytes(varint(items.size()));
            }
            items.forEach(item -> out.writeBytes(code(def.parts.get(0), item)));
            out.write(0);
        } else if (value instanceof Choice choice) {
            out.writeBytes(varint(choice.branch));
            out.writeBytes(code(def.parts.get(choice.branch), choice.value));
        } else if (value instanceof Map<?, ?> values) {
            def.members.forEach(m -> out.writeBytes(code(m.schema, values.get(m.name))));
        }
        return out.toByteArray();
    }

    private byte[] varint(long n) {
        BigInteger ones = BigInteger.ONE.shiftLeft(64).subtract(BigInteger.ONE);
        BigInteger u = BigInteger.valueOf(n).shiftLeft(1).and(ones);
        if (n < 0) {
            u = u.xor(ones);
        }
        ByteArrayOutputStream out = new ByteArrayOutputStream();
        do {
            int low = u.intValue() & 127;
            u = u.shiftRight(7);
            out.write(u.signum() == 0 ? low : low + 128);
        } while (u.signum() != 0);
        return out.toByteArray();
    }

    private Object resolve(int w, Object value, int r) {
        Def from = defs.get(w);
        Def to = defs.get(r);
        if (value instanceof Choice choice) {
            return resolve(from.parts.get(choice.branch), choice.value, r);
        }
        if (to.kind == 6) {
            for (int branch = 0; branch < 2; branch++) {
                if (matches(from, defs.get(to.parts.get(branch)))) {
                    return new Choice(branch, resolve(w, value, to.parts.get(branch)));
                }
            }
            throw new Bad();
        }
        if (!kinds(from, to) || from.name != to.name) {
            throw new Bad();
        }
        if (to.kind == 4) {
            if (BigInteger.valueOf(to.symbols).testBit(((Long) value).intValue())) {
                return value;
            }
            if (to.fallback == NONE) {
                throw new Bad();
            }
            return (long) to.fallback;
        }
        if (value instanceof List<?> items) {
            List<Object> read = new ArrayList<>();
            items.forEach(item -> read.add(resolve(from.parts.get(0), item, to.parts.get(0))));
            return read;
        }
        if (value instanceof Map<?, ?> values) {
            Map<Integer, Object> read = new LinkedHashMap<>();
            to.members.forEach(m -> read.put(m.name, resolveMember(from, values, m)));
            return read;
        }
        return value;
    }

    private Object resolveMember(Def from, Map<?, ?> values, Member wanted) {
        for (Member m : from.members) {
            if (m.name == wanted.name) {
                return resolve(m.schema, values.get(m.name), wanted.schema);
            }
        }
        if (!wanted.hasDefault) {
            throw new Bad();
        }
        return parse(wanted.schema, defaultNumbers(wanted.schema, wanted.value));
    }

    private void write(int block, byte[] bytes) {
        if (left != null && left == 0) {
            up = false;
            left = null;
            row.clear();
            stagedValues = new ArrayList<>();
            stagedSchema = NONE;
            latest = new ArrayList<>();
            throw new Stop();
        }
        if (left != null) {
            left--;
        }
        made++;
        disk[block] = bytes;
    }

    private byte[] blockOf(List<Integer> octets) {
        byte[] bytes = new byte[32];
        for (int i = 0; i < octets.size(); i++) {
            bytes[i] = octets.get(i).byteValue();
        }
        return bytes;
    }

    private boolean isRegistered(int subject, int schema) {
        return registered.contains(new Entry(subject, schema));
    }

    private List<Integer> schemasOf(int subject) {
        return registered.stream().filter(e -> e.subject == subject).map(Entry::schema).toList();
    }

    private static boolean isSubject(int subject) {
        return subject == 0 || subject == 1 || subject == 2;
    }

    int register(int subject, int schema) {
        if (!up) {
            return DOWN;
        }
        if (!isSubject(subject) || !known(schema) || isRegistered(subject, schema) || registered.size() == 10) {
            return NONE;
        }
        if (!schemasOf(subject).stream().allMatch(earlier -> canRead(schema, earlier))) {
            return FAULT;
        }
        List<Entry> then = new ArrayList<>(registered);
        then.add(new Entry(subject, schema));
        List<Integer> octets = new ArrayList<>(List.of(then.size()));
        then.forEach(e -> octets.addAll(List.of(e.subject, e.schema)));
        try {
            write(1, blockOf(octets));
        } catch (Stop e) {
            return DOWN;
        }
        registered.add(new Entry(subject, schema));
        return schemasOf(subject).size() - 1;
    }

    int versions(int subject) {
        return up && isSubject(subject) ? schemasOf(subject).size() : NONE;
    }

    int version(int subject, int v) {
        if (!up || !isSubject(subject) || v < 0 || v >= schemasOf(subject).size()) {
            return NONE;
        }
        return schemasOf(subject).get(v);
    }

    int give(long number) {
        if (!up) {
            return DOWN;
        }
        if (row.size() == 24) {
            return NONE;
        }
        row.add(number);
        return row.size();
    }

    int stage(int schema) {
        if (!up) {
            return DOWN;
        }
        if (!known(schema) || !stagedValues.isEmpty() && stagedSchema != schema) {
            return NONE;
        }
        Object value;
        try {
            value = parse(schema, row);
        } catch (Bad e) {
            return NONE;
        }
        int bytes = code(schema, value).length;
        if (stagedValues.size() == 10 || codeAll(schema, stagedValues).length + bytes > 150) {
            return FULL;
        }
        stagedSchema = schema;
        stagedValues.add(value);
        row.clear();
        return bytes;
    }

    private byte[] codeAll(int schema, List<Object> values) {
        ByteArrayOutputStream out = new ByteArrayOutputStream();
        values.forEach(value -> out.writeBytes(code(schema, value)));
        return out.toByteArray();
    }

    int drop() {
        if (!up) {
            return DOWN;
        }
        row.clear();
        stagedValues = new ArrayList<>();
        return 0;
    }

    private int sizeOf(int schema, List<Object> values) {
        return (6 + codeAll(schema, values).length + 31) / 32;
    }

    private int placeFor(int blocks) {
        boolean[] used = new boolean[40];
        used[0] = true;
        used[1] = true;
        for (Stored file : stored) {
            for (int i = 0; i < file.blocks; i++) {
                used[file.first + i] = true;
            }
        }
        for (int first = 0; first + blocks <= 40; first++) {
            boolean free = true;
            for (int i = 0; i < blocks; i++) {
                free &= !used[first + i];
            }
            if (free) {
                return first;
            }
        }
        return NONE;
    }

    private void commit(Stored file, List<Stored> then) {
        byte[] coded = codeAll(file.schema, file.values);
        byte[] whole = new byte[file.blocks * 32];
        whole[0] = 83;
        whole[1] = (byte) file.schema;
        whole[2] = (byte) file.values.size();
        whole[3] = (byte) (coded.length / 256);
        whole[4] = (byte) (coded.length % 256);
        System.arraycopy(coded, 0, whole, 5, coded.length);
        int sum = 0;
        for (byte octet : whole) {
            sum += Byte.toUnsignedInt(octet);
        }
        whole[5 + coded.length] = (byte) (sum % 251);
        for (int i = 0; i < file.blocks; i++) {
            byte[] block = new byte[32];
            System.arraycopy(whole, i * 32, block, 0, 32);
            write(file.first + i, block);
        }
        List<Integer> octets = new ArrayList<>(List.of(then.size()));
        then.forEach(f -> octets.addAll(List.of(f.subject, f.first, f.blocks)));
        write(0, blockOf(octets));
        stored = then;
    }

    int load(int subject) {
        if (!up) {
            return DOWN;
        }
        if (!isSubject(subject) || stagedValues.isEmpty() || !isRegistered(subject, stagedSchema)) {
            return NONE;
        }
        int blocks = sizeOf(stagedSchema, stagedValues);
        int first = placeFor(blocks);
        if (stored.size() == 9 || first == NONE) {
            return FULL;
        }
        Stored file = new Stored(subject, first, blocks, stagedSchema, stagedValues);
        List<Stored> then = new ArrayList<>(stored);
        then.add(file);
        try {
            commit(file, then);
        } catch (Stop e) {
            return DOWN;
        }
        stagedValues = new ArrayList<>();
        return records(subject);
    }

    int compact(int subject) {
        if (!up) {
            return DOWN;
        }
        if (!isSubject(subject)) {
            return NONE;
        }
        List<Stored> own = stored.stream().filter(f -> f.subject == subject).toList();
        for (int i = 0; i + 1 < own.size(); i++) {
            Stored one = own.get(i);
            Stored two = own.get(i + 1);
            List<Object> values = new ArrayList<>(one.values);
            values.addAll(two.values);
            if (one.schema == two.schema && values.size() <= 20 && codeAll(one.schema, values).length <= 200) {
                return join(one, two, values);
            }
        }
        return 0;
    }

    private int join(Stored one, Stored two, List<Object> values) {
        int blocks = sizeOf(one.schema, values);
        int first = placeFor(blocks);
        if (first == NONE) {
            return FULL;
        }
        Stored file = new Stored(one.subject, first, blocks, one.schema, values);
        List<Stored> then = new ArrayList<>();
        for (Stored f : stored) {
            if (f == one) {
                then.add(file);
            } else if (f != two) {
                then.add(f);
            }
        }
        try {
            commit(file, then);
        } catch (Stop e) {
            return DOWN;
        }
        return 1;
    }

    int read(int subject, int k, int schema) {
        latest = new ArrayList<>();
        if (!up) {
            return DOWN;
        }
        if (!isSubject(subject) || !known(schema) || !isRegistered(subject, schema) || k < 0 || k >= records(subject)) {
            return NONE;
        }
        List<Object> values = new ArrayList<>();
        List<Integer> schemas = new ArrayList<>();
        for (Stored f : stored) {
            if (f.subject == subject) {
                values.addAll(f.values);
                f.values.forEach(value -> schemas.add(f.schema));
            }
        }
        List<Long> numbers;
        try {
            numbers = flat(schema, resolve(schemas.get(k), values.get(k), schema));
        } catch (Bad e) {
            return FAULT;
        }
        if (numbers.size() > 40) {
            return FULL;
        }
        latest = numbers;
        return numbers.size();
    }

    long number(int i) {
        return i >= 0 && i < latest.size() ? latest.get(i) : 0;
    }

    int records(int subject) {
        if (!up || !isSubject(subject)) {
            return NONE;
        }
        return stored.stream().filter(f -> f.subject == subject).mapToInt(f -> f.values.size()).sum();
    }

    int files(int subject) {
        return up && isSubject(subject) ? (int) stored.stream().filter(f -> f.subject == subject).count() : NONE;
    }

    int octet(int block, int k) {
        return block >= 0 && block < 40 && k >= 0 && k < 32 ? Byte.toUnsignedInt(disk[block][k]) : NONE;
    }

    int limit(int writes) {
        if (!up) {
            return DOWN;
        }
        if (writes < 0) {
            return NONE;
        }
        left = writes;
        return 0;
    }

    boolean restart() {
        boolean was = up;
        up = true;
        return !was;
    }

    int writes() {
        return made;
    }
}
