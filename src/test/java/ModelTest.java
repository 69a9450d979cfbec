import java.util.ArrayList;
import java.util.List;
import java.util.Random;

/** Runs of calls drawn from fixed seeds: the program and the model must answer the same. */
public final class ModelTest {
    private static final int RUNS = 20000;
    private static final int CALLS = 512;
    /** More calls than one record's numbers and its stage, or one read with a look at its numbers, are. */
    private static final int MOST_AT_ONCE = 60;
    private static final Check CHECK = new Check();
    private static final int[] ANSWERS = new int[5 * 5];

    private final Random random;
    private final SchemaTables x = new SchemaTables();
    private final Model model = new Model();
    /** How strange the arguments are, from 0 on; how often the machine gets a limit; how large values are. */
    private final int strangeness;
    private final int unrest;
    private final int largeness;
    /** How many calls the object may be used for, and how many of them are for the looks at the end. */
    private int left = CALLS;
    private final int lastLooks;

    private ModelTest(long seed) {
        random = new Random(seed);
        strangeness = random.nextInt(20) + 4;
        unrest = random.nextInt(3);
        largeness = random.nextInt(4);
        lastLooks = MOST_AT_ONCE + random.nextInt(3) * 60;
    }

    public static void main(String[] args) {
        for (int seed = 0; seed < RUNS; seed++) {
            CHECK.begin("seed " + seed);
            new ModelTest(seed).run();
        }
        dueKindsOfAnswers();
        CHECK.end();
    }

    /** A draw of runs that never meets a FULL or a FAULT would tell little. */
    private static void dueKindsOfAnswers() {
        CHECK.begin("the draw of runs");
        String[] names = {"register", "stage", "load", "compact", "read"};
        int[][] answers = {{0, -1, -2, -4}, {0, -1, -3, -4}, {0, -1, -3, -4}, {0, -1, -3, -4}, {0, -1, -2, -3, -4}};
        for (int call = 0; call < names.length; call++) {
            for (int answer : answers[call]) {
                CHECK.due(names[call] + " answers " + answer + " now and then", ANSWERS[call * 5 - answer] >= 10, true);
            }
        }
    }

    private boolean chance(int of) {
        return random.nextInt(of) == 0;
    }

    private int strange(int ordinary) {
        if (!chance(strangeness * 3)) {
            return ordinary;
        }
        int[] some = {-1, -2, 3, 8, 24, 40, 255, 256, Integer.MAX_VALUE, Integer.MIN_VALUE, random.nextInt()};
        return some[random.nextInt(some.length)];
    }

    private int subject() {
        return strange(random.nextInt(random.nextInt(3) + 1));
    }

    private int schema() {
        return strange(random.nextInt(Math.max(1, model.defs.size())));
    }

    private void run() {
        if (chance(8)) {
            makeLargeReader();
        } else if (chance(8)) {
            fillTheDisk();
        }
        int opening = 5 + random.nextInt(20);
        for (int i = 0; left > lastLooks; i++) {
            if (i < opening || chance(20)) {
                makeSomething();
            } else {
                doSomething();
            }
        }
        switch (random.nextInt(3)) {
            case 0 -> compareState();
            case 1 -> compareSchemas();
            default -> compareDisk();
        }
    }

    private void makeSomething() {
        int kind = strange(random.nextInt(8));
        if (kind == 7 || chance(3)) {
            int name = strange(random.nextInt(3));
            int schema = schema();
            boolean has = chance(2);
            long value = chance(2) ? 0 : number();
            field(name, schema, has, value);
        }
        int name = strange(random.nextInt(2));
        int a = kind == 4 ? strange(1 + random.nextInt(chance(2) ? 7 : 255)) : schema();
        int b = kind == 4 ? strange(random.nextInt(4) - 1) : schema();
        make(kind, name, a, b);
    }

    /** Arrays of records without fields, and a reader that has defaults for them: few numbers become many. */
    private void makeLargeReader() {
        make(2, 0, 0, 0);
        make(0, 0, 0, 0);
        make(6, 0, random.nextInt(2), 0);
        make(6, 0, 0, 1);
        int item = make(7, 1, 0, 0);
        item = make(5, 0, item, 0);
        int writer = make(5, 0, item, 0);
        for (int name = 0; name < 3; name++) {
            field(name, random.nextInt(4), true, random.nextInt(3));
        }
        item = make(7, 1, 0, 0);
        item = make(5, 0, item, 0);
        int reader = make(5, 0, item, 0);
        due("register(0, " + writer + ")", x.register(0, writer), model.register(0, writer));
        due("register(0, " + reader + ")", x.register(0, reader), model.register(0, reader));
        for (int i = 0; i < 4; i++) {
            due("give(3)", x.give(3), model.give(3));
        }
        due("stage(" + writer + ")", x.stage(writer), model.stage(writer));
        due("load(0)", x.load(0), model.load(0));
    }

    /** Long files, and few of them, so that free blocks become rare. */
    private void fillTheDisk() {
        make(3, 0, 0, 0);
        int longs = make(5, 0, 0, 0);
        for (int subject = 0; subject < 2; subject++) {
            due("register(" + subject + ", " + longs + ")", x.register(subject, longs), model.register(subject, longs));
        }
        for (int file = 0; file < 8; file++) {
            int records = file < 2 ? 3 : 4;
            for (int i = 0; i < records; i++) {
                for (long n : new long[] {3, random.nextLong(), random.nextLong(), random.nextLong()}) {
                    due("give(" + n + ")", x.give(n), model.give(n));
                }
                due("stage(" + longs + ")", x.stage(longs), model.stage(longs));
            }
            int subject = file < 2 ? 0 : 1;
            due("load(" + subject + ")", x.load(subject), model.load(subject));
        }
    }

    private int make(int kind, int name, int a, int b) {
        int due = model.make(kind, name, a, b);
        due("make(" + kind + ", " + name + ", " + a + ", " + b + ")", x.make(kind, name, a, b), due);
        return due;
    }

    private void field(int name, int schema, boolean has, long value) {
        due("field(" + name + ", " + schema + ", " + has + ", " + value + ")", x.field(name, schema, has, value),
            model.field(name, schema, has, value));
    }

    private void doSomething() {
        switch (random.nextInt(12)) {
            case 0 -> register();
            case 1, 2, 3 -> stageValue();
            case 4, 5 -> load();
            case 6 -> compact();
            case 7, 8, 9 -> read();
            case 10 -> look();
            default -> disturb();
        }
    }

    private void register() {
        int subject = subject();
        int schema = schema();
        for (int i = 0; i < 5 && model.registered.size() < 10 && !readsAll(schema, subject); i++) {
            schema = schema();
        }
        long due = model.register(subject, schema);
        count(0, due);
        due("register(" + subject + ", " + schema + ")", x.register(subject, schema), due);
    }

    private boolean readsAll(int schema, int subject) {
        return model.registered.stream().allMatch(e -> e.subject() != subject || model.canRead(schema, e.schema()));
    }

    private void stageValue() {
        int schema = schema();
        if (!model.stagedValues.isEmpty() && !chance(strangeness)) {
            schema = model.stagedSchema;
        } else if (!model.registered.isEmpty() && !chance(strangeness)) {
            schema = model.registered.get(random.nextInt(model.registered.size())).schema();
        }
        int times = 1 + random.nextInt(6);
        for (int i = 0; i < times && left > lastLooks; i++) {
            List<Long> numbers = new ArrayList<>();
            if (schema >= 0 && schema < model.defs.size()) {
                draw(schema, numbers);
            }
            if (numbers.size() > 24 && !chance(4)) {
                continue;
            }
            if (!model.row.isEmpty() && !chance(strangeness)) {
                due("drop()", x.drop(), model.drop());
            }
            if (chance(strangeness)) {
                numbers.add(random.nextInt(numbers.size() + 1), number());
            }
            for (long n : numbers.subList(0, Math.min(26, numbers.size()))) {
                due("give(" + n + ")", x.give(n), model.give(n));
            }
            long due = model.stage(schema);
            count(1, due);
            due("stage(" + schema + ")", x.stage(schema), due);
        }
    }

    private long number() {
        long[] some = {0, 1, 2, 3, -1, 63, 64, -64, -65, Integer.MAX_VALUE, Integer.MIN_VALUE, Integer.MAX_VALUE + 1L,
            Long.MAX_VALUE, Long.MIN_VALUE, random.nextLong(), random.nextInt(8)};
        return some[random.nextInt(some.length)];
    }

    private void draw(int schema, List<Long> numbers) {
        Model.Def def = model.defs.get(schema);
        switch (def.kind()) {
            case 0 -> { }
            case 1 -> numbers.add((long) random.nextInt(2));
            case 2 -> numbers.add(chance(2) ? random.nextInt(100) - 50L : random.nextInt());
            case 3 -> numbers.add(largeness > 0 && !chance(4) ? random.nextLong() : number());
            case 4 -> numbers.add(symbol(def));
            case 5 -> {
                int count = largeness > 1 && !chance(4) ? 3 : random.nextInt(4);
                numbers.add((long) count);
                for (int i = 0; i < count; i++) {
                    draw(def.parts().get(0), numbers);
                }
            }
            case 6 -> {
                int branch = random.nextInt(2);
                numbers.add((long) branch);
                draw(def.parts().get(branch), numbers);
            }
            default -> def.members().forEach(m -> draw(m.schema(), numbers));
        }
    }

    private long symbol(Model.Def def) {
        int symbol = random.nextInt(8);
        while ((def.symbols() >> symbol & 1) == 0) {
            symbol = (symbol + 1) % 8;
        }
        return symbol;
    }

    private void load() {
        int subject = subject();
        for (Model.Entry e : model.registered) {
            if (e.schema() == model.stagedSchema && !chance(3)) {
                subject = e.subject();
            }
        }
        long due = model.load(subject);
        count(2, due);
        due("load(" + subject + ")", x.load(subject), due);
    }

    private void compact() {
        int subject = subject();
        long due = model.compact(subject);
        count(3, due);
        due("compact(" + subject + ")", x.compact(subject), due);
    }

    private void read() {
        int subject = subject();
        int k = strange(random.nextInt(Math.max(0, model.records(subject)) + 1));
        int schema = schema();
        int versions = model.versions(subject);
        if (versions > 0 && !chance(strangeness)) {
            schema = model.version(subject, random.nextInt(versions));
        }
        long due = model.read(subject, k, schema);
        count(4, due);
        due("read(" + subject + ", " + k + ", " + schema + ")", x.read(subject, k, schema), due);
        for (int i = 0; i <= due; i++) {
            due("number(" + i + ")", x.number(i), model.number(i));
        }
    }

    private void look() {
        int r = schema();
        int w = schema();
        due("canRead(" + r + ", " + w + ")", x.canRead(r, w) ? 1 : 0, model.canRead(r, w) ? 1 : 0);
        int subject = subject();
        int v = strange(random.nextInt(4));
        due("version(" + subject + ", " + v + ")", x.version(subject, v), model.version(subject, v));
        int block = strange(random.nextInt(40));
        int k = strange(random.nextInt(32));
        due("octet(" + block + ", " + k + ")", x.octet(block, k), model.octet(block, k));
        int i = strange(random.nextInt(41));
        due("number(" + i + ")", x.number(i), model.number(i));
    }

    private void disturb() {
        if (!model.up || chance(5)) {
            due("restart()", x.restart() ? 1 : 0, model.restart() ? 1 : 0);
        } else if (unrest > 0 && chance(6 - 2 * unrest)) {
            int writes = strange(random.nextInt(12));
            due("limit(" + writes + ")", x.limit(writes), model.limit(writes));
        } else if (chance(6)) {
            due("drop()", x.drop(), model.drop());
        }
    }

    private void compareState() {
        for (int subject = 0; subject < 3; subject++) {
            due("versions(" + subject + ")", x.versions(subject), model.versions(subject));
            due("records(" + subject + ")", x.records(subject), model.records(subject));
            due("files(" + subject + ")", x.files(subject), model.files(subject));
        }
        due("writes()", x.writes(), model.writes());
        for (int i = 0; left > 0; i++) {
            due("octet(" + i / 32 + ", " + i % 32 + ")", x.octet(i / 32, i % 32), model.octet(i / 32, i % 32));
        }
    }

    private void compareSchemas() {
        while (left > 0) {
            int r = random.nextInt(Math.max(1, model.defs.size()));
            int w = random.nextInt(Math.max(1, model.defs.size()));
            due("canRead(" + r + ", " + w + ")", x.canRead(r, w) ? 1 : 0, model.canRead(r, w) ? 1 : 0);
        }
    }

    private void compareDisk() {
        for (int i = random.nextInt(30 * 32); left > 0; i++) {
            due("octet(" + i / 32 + ", " + i % 32 + ")", x.octet(i / 32, i % 32), model.octet(i / 32, i % 32));
        }
    }

    private static void count(int call, long answer) {
        ANSWERS[call * 5 - (int) Math.min(0, answer)]++;
    }

    /** For one call each, so that an object is used for 512 calls. */
    private void due(String call, long got, long want) {
        left--;
        CHECK.due(call, got, want);
    }
}
