import java.util.ArrayList;
import java.util.List;

/**
 * A call that is refused changes nothing, but for what the document says it loses. Each refused call is made on an
 * object in some state; then this object and its twin, on which it was not made, must answer all further calls alike.
 */
public final class RefusalsTest extends Cases {
    /** Builds a state; with the numbers of a read, or without. */
    private interface State {
        SchemaTables build(boolean isRead);
    }

    private interface Call {
        long on(SchemaTables x);
    }

    /** A run of calls, whose answers tell of a part of the state; none makes an object's calls more than 512. */
    private interface Look {
        void at(SchemaTables x, List<Long> seen);
    }

    private static final List<Look> LOOKS = new ArrayList<>();

    /** An ARRAY of depth 6 in the rich state. */
    private static final int DEEPEST = 9;
    /** A LONG in the rich state that is registered nowhere, but could be under subject 1. */
    private static final int SPARE = 10;
    private static final int NO_SCHEMA = 11;

    public static void main(String[] args) {
        addLooks();
        richState();
        richStateReads();
        looksChangeNothing();
        allSchemasAreMade();
        depthWouldBe7();
        allRegistered();
        rowIsFull();
        rowIsNoValue();
        rowIsEmpty();
        tenAreStaged();
        bytesAreStaged();
        nothingIsStaged();
        nineFiles();
        noFreeBlocks();
        readFaultOrFull();
        down();
        downRefusesToMake();
        goingDownLoses();
        CHECK.end();
    }

    private static void addLooks() {
        addLook(RefusalsTest::lookAtTables);
        addLook(RefusalsTest::lookAtNumbers);
        for (int part = 0; part < 5; part++) {
            int first = 8 * part;
            addLook((x, seen) -> lookAtBlocks(x, seen, first));
            addLook((x, seen) -> loadAll(x, seen, first));
        }
        for (int part = 0; part < 2; part++) {
            int first = 12 * part;
            addLook((x, seen) -> lookAtSchemas(x, seen, first));
        }
        addLook(RefusalsTest::giveMore);
        addLook(RefusalsTest::stageAll);
        addLook(RefusalsTest::giveFields);
        addLook(RefusalsTest::makeRecord);
        addLook(RefusalsTest::registerAll);
        addLook(RefusalsTest::compactAll);
    }

    /** A machine that is down is looked at as it is, and as it is when it is up again. */
    private static void addLook(Look look) {
        LOOKS.add(look);
        LOOKS.add((x, seen) -> {
            seen.add(x.restart() ? 1L : 0L);
            look.at(x, seen);
        });
    }

    private static void lookAtTables(SchemaTables x, List<Long> seen) {
        for (int subject = -1; subject <= 3; subject++) {
            seen.add((long) x.versions(subject));
            seen.add((long) x.records(subject));
            seen.add((long) x.files(subject));
            for (int v = -1; v <= 10; v++) {
                seen.add((long) x.version(subject, v));
            }
        }
        seen.add((long) x.writes());
    }

    private static void lookAtNumbers(SchemaTables x, List<Long> seen) {
        for (int i = -1; i <= 41; i++) {
            seen.add(x.number(i));
        }
    }

    private static void lookAtBlocks(SchemaTables x, List<Long> seen, int first) {
        for (int i = 0; i < 256; i++) {
            seen.add((long) x.octet(first + i / 32, i % 32));
        }
    }

    private static void lookAtSchemas(SchemaTables x, List<Long> seen, int first) {
        for (int r = first; r < first + 12; r++) {
            for (int w = 0; w < 24; w++) {
                seen.add(x.canRead(r, w) ? 1L : 0L);
            }
        }
        seen.add((long) x.make(INT, 0, 0, 0));
    }

    private static void loadAll(SchemaTables x, List<Long> seen, int first) {
        for (int subject = 0; subject < 3; subject++) {
            seen.add((long) x.load(subject));
        }
        lookAtBlocks(x, seen, first);
    }

    private static void giveMore(SchemaTables x, List<Long> seen) {
        for (int i = 0; i < 25; i++) {
            seen.add((long) x.give(1));
        }
    }

    private static void stageAll(SchemaTables x, List<Long> seen) {
        for (int schema = 23; schema >= 0; schema--) {
            seen.add((long) x.stage(schema));
        }
        for (int subject = 0; subject < 3; subject++) {
            seen.add((long) x.load(subject));
            seen.add((long) x.read(subject, x.records(subject) - 1, x.version(subject, 0)));
            lookAtNumbers(x, seen);
        }
    }

    private static void giveFields(SchemaTables x, List<Long> seen) {
        for (int name = 0; name < 8; name++) {
            seen.add((long) x.field(name, NULL, true, 0));
        }
    }

    private static void makeRecord(SchemaTables x, List<Long> seen) {
        int made = x.make(RECORD, 2, 0, 0);
        seen.add((long) made);
        for (int other = 0; other < 24; other++) {
            seen.add(x.canRead(made, other) ? 1L : 0L);
            seen.add(x.canRead(other, made) ? 1L : 0L);
        }
        x.drop();
        for (int numbers = 0; numbers < 8; numbers++) {
            seen.add((long) x.stage(made));
            seen.add((long) x.give(1));
        }
        seen.add((long) x.make(RECORD, 2, 0, 0));
    }

    private static void registerAll(SchemaTables x, List<Long> seen) {
        for (int subject = 0; subject < 3; subject++) {
            for (int schema = 23; schema >= 0; schema--) {
                seen.add((long) x.register(subject, schema));
            }
            seen.add((long) x.writes());
        }
        lookAtTables(x, seen);
    }

    private static void compactAll(SchemaTables x, List<Long> seen) {
        for (int subject = 0; subject < 3; subject++) {
            for (int i = 0; i < 3; i++) {
                seen.add((long) x.compact(subject));
                seen.add((long) x.writes());
            }
        }
        lookAtTables(x, seen);
        lookAtNumbers(x, seen);
    }

    private static void dueAlike(String call, Look look, SchemaTables x, SchemaTables twin) {
        List<Long> seen = new ArrayList<>();
        List<Long> due = new ArrayList<>();
        look.at(x, seen);
        look.at(twin, due);
        due(call + " changes nothing: look " + LOOKS.indexOf(look) + ", answers " + seen.size(), seen.size(), due.size());
        for (int i = 0; i < due.size(); i++) {
            due(call + " changes nothing: look " + LOOKS.indexOf(look) + ", answer " + i, seen.get(i), due.get(i));
        }
    }

    private static void refused(State state, String name, Call call, long answer) {
        for (Look look : LOOKS) {
            SchemaTables x = state.build(true);
            due(name, call.on(x), answer);
            dueAlike(name, look, x, state.build(true));
        }
    }

    /** A refused read loses the numbers of the one before it, and nothing else. */
    private static void refusedRead(State state, int subject, int k, int schema, long answer) {
        String name = "read(" + subject + ", " + k + ", " + schema + ")";
        for (Look look : LOOKS) {
            SchemaTables x = state.build(true);
            due("a number of the read before", x.number(0) != 0, true);
            due(name, x.read(subject, k, schema), answer);
            dueAlike(name, look, x, state.build(false));
        }
    }

    /**
     * Eleven schemas, among them ARRAYs of depth 2 to 6; two fields that wait; versions; files that can be joined; free
     * blocks with old bytes; staged records; a value at hand; a limit.
     */
    private static SchemaTables rich(boolean isRead) {
        SchemaTables x = richDisk();
        staged(x, LONGS, 1, 64);
        staged(x, LONGS, 0);
        giveAll(x, 2, 5, -6);
        x.limit(5);
        if (isRead) {
            x.read(0, 1, LONGS);
        }
        return x;
    }

    private static SchemaTables richDisk() {
        SchemaTables x = longs();
        x.make(RECORD, 2, 0, 0);
        for (int depth = 3; depth <= 6; depth++) {
            x.make(ARRAY, 0, depth == 3 ? LONGS : depth + 2, 0);
        }
        x.make(LONG, 0, 0, 0);
        x.field(1, LONGS, false, 0);
        x.field(6, INT, true, 7);
        x.register(1, INT);
        x.register(1, LONG);
        x.register(2, LONGS);
        loaded(x, 0, LONGS, 2, 70, 71);
        loaded(x, 0, LONGS, 3, 72, 73, 74);
        loaded(x, 1, INT, 75);
        loaded(x, 1, LONG, 76);
        staged(x, LONGS, arrayOf(32));
        x.limit(1);
        x.load(0);
        x.restart();
        return x;
    }

    private static void richState() {
        begin("a rich state");
        State rich = RefusalsTest::rich;
        refused(rich, "field, name below", x -> x.field(-1, INT, false, 0), NONE);
        refused(rich, "field, name above", x -> x.field(8, INT, false, 0), NONE);
        refused(rich, "field, the same name", x -> x.field(6, INT, false, 0), NONE);
        refused(rich, "field, no schema", x -> x.field(0, NO_SCHEMA, false, 0), NONE);
        refused(rich, "field, no schema", x -> x.field(0, -1, false, 0), NONE);
        refused(rich, "field, no such default", x -> x.field(0, BOOLEAN, true, 2), NONE);
        refused(rich, "field, a RECORD's default", x -> x.field(0, 5, true, 0), NONE);
        refused(rich, "make, kind below", x -> x.make(-1, 0, 0, 0), NONE);
        refused(rich, "make, kind above", x -> x.make(8, 0, 0, 0), NONE);
        refused(rich, "make, ENUM name", x -> x.make(ENUM, 8, 1, NONE), NONE);
        refused(rich, "make, ENUM symbols", x -> x.make(ENUM, 0, 0, NONE), NONE);
        refused(rich, "make, ENUM default", x -> x.make(ENUM, 0, 1, 1), NONE);
        refused(rich, "make, no item", x -> x.make(ARRAY, 0, NO_SCHEMA, 0), NONE);
        refused(rich, "make, no branch", x -> x.make(UNION, 0, 0, NO_SCHEMA), NONE);
        refused(rich, "make, branches alike", x -> x.make(UNION, 0, LONGS, DEEPEST), NONE);
        refused(rich, "make, RECORD name", x -> x.make(RECORD, 8, 0, 0), NONE);
        refused(rich, "make, too deep", x -> x.make(ARRAY, 0, DEEPEST, 0), NONE);
        refused(rich, "register, no subject", x -> x.register(3, INT), NONE);
        refused(rich, "register, no schema", x -> x.register(0, NO_SCHEMA), NONE);
        refused(rich, "register, there already", x -> x.register(1, INT), NONE);
        refused(rich, "register, can't read", x -> x.register(0, INT), FAULT);
        refused(rich, "stage, no schema", x -> x.stage(NO_SCHEMA), NONE);
        refused(rich, "stage, another schema", x -> x.stage(6), NONE);
        refused(rich, "load, no subject", x -> x.load(-1), NONE);
        refused(rich, "load, no subject", x -> x.load(3), NONE);
        refused(rich, "load, not registered there", x -> x.load(1), NONE);
        refused(rich, "compact, no subject", x -> x.compact(-1), NONE);
        refused(rich, "compact, no subject", x -> x.compact(3), NONE);
        refused(rich, "compact, no files", x -> x.compact(2), 0);
        refused(rich, "compact, no pair", x -> x.compact(1), 0);
        refused(rich, "limit below 0", x -> x.limit(-1), NONE);
        refused(rich, "restart when it is up", x -> x.restart() ? 1 : 0, 0);
    }

    private static void richStateReads() {
        begin("a rich state, and a read");
        refusedRead(RefusalsTest::rich, -1, 0, LONGS, NONE);
        refusedRead(RefusalsTest::rich, 3, 0, LONGS, NONE);
        refusedRead(RefusalsTest::rich, 0, 0, -1, NONE);
        refusedRead(RefusalsTest::rich, 0, 0, NO_SCHEMA, NONE);
        refusedRead(RefusalsTest::rich, 0, 0, INT, NONE);
        refusedRead(RefusalsTest::rich, 0, -1, LONGS, NONE);
        refusedRead(RefusalsTest::rich, 0, 2, LONGS, NONE);
        refusedRead(RefusalsTest::rich, 2, 0, LONGS, NONE);
        refusedRead(RefusalsTest::rich, 1, 1, INT, FAULT);
    }

    private static void looksChangeNothing() {
        begin("a rich state, and a look at it");
        State rich = RefusalsTest::rich;
        refused(rich, "canRead", x -> x.canRead(LONG, INT) ? 1 : 0, 1);
        refused(rich, "canRead of none", x -> x.canRead(NO_SCHEMA, 0) ? 1 : 0, 0);
        refused(rich, "versions", x -> x.versions(1), 2);
        refused(rich, "versions of none", x -> x.versions(3), NONE);
        refused(rich, "version", x -> x.version(1, 1), LONG);
        refused(rich, "version of none", x -> x.version(1, 2), NONE);
        refused(rich, "records", x -> x.records(0), 2);
        refused(rich, "records of none", x -> x.records(3), NONE);
        refused(rich, "files", x -> x.files(0), 2);
        refused(rich, "files of none", x -> x.files(-1), NONE);
        refused(rich, "octet", x -> x.octet(2, 0), 83);
        refused(rich, "octet of none", x -> x.octet(40, 0), NONE);
        refused(rich, "number", x -> x.number(3), 74);
        refused(rich, "number of none", x -> x.number(4), 0);
        refused(rich, "writes", x -> x.writes(), 13);
    }

    private static void allSchemasAreMade() {
        begin("24 schemas and three fields");
        State state = isRead -> {
            SchemaTables x = rich(isRead);
            x.field(3, BOOLEAN, true, 1);
            for (int i = NO_SCHEMA; i < 24; i++) {
                x.make(i % 2 == 0 ? INT : NULL, 0, 0, 0);
            }
            return x;
        };
        for (int kind = NULL; kind <= RECORD; kind++) {
            int made = kind;
            refused(state, "the 25th, kind " + kind, x -> x.make(made, 0, 1, 0), NONE);
        }
        refused(state, "the fourth field", x -> x.field(0, INT, false, 0), NONE);
    }

    private static void depthWouldBe7() {
        begin("a field of depth 6");
        State state = isRead -> {
            SchemaTables x = rich(isRead);
            x.field(0, DEEPEST, false, 0);
            return x;
        };
        refused(state, "make of its record", x -> x.make(RECORD, 0, 0, 0), NONE);
    }

    private static void allRegistered() {
        begin("ten registrations");
        State state = isRead -> {
            SchemaTables x = richDisk();
            x.drop();
            for (int i = SPARE; i < SPARE + 6; i++) {
                x.register(1, i);
                x.make(LONG, 0, 0, 0);
            }
            staged(x, SPARE, 3);
            x.give(9);
            x.limit(3);
            if (isRead) {
                x.read(1, 0, SPARE);
            }
            return x;
        };
        refused(state, "the eleventh", x -> x.register(1, SPARE + 6), NONE);
        refused(state, "the eleventh", x -> x.register(0, 5), NONE);
        refused(state, "the eleventh, that can't read", x -> x.register(1, NULL), NONE);
    }

    private static void rowIsFull() {
        begin("24 numbers at hand");
        State state = isRead -> {
            SchemaTables x = rich(isRead);
            for (int i = 3; i < 24; i++) {
                x.give(1);
            }
            return x;
        };
        refused(state, "the 25th", x -> x.give(5), NONE);
        refused(state, "stage of no value", x -> x.stage(LONGS), NONE);
    }

    private static void rowIsNoValue() {
        begin("a row that is no value");
        for (long number : new long[] {-1, 4, WRAPS}) {
            State state = isRead -> {
                SchemaTables x = richDisk();
                staged(x, LONGS, 1, 64);
                giveAll(x, number, 5);
                x.limit(4);
                if (isRead) {
                    x.read(0, 1, LONGS);
                }
                return x;
            };
            refused(state, "stage", x -> x.stage(LONGS), NONE);
        }
        State tooLong = isRead -> giveAll(rich(isRead), 1);
        refused(tooLong, "stage of a value and one number", x -> x.stage(LONGS), NONE);
        State tooShort = isRead -> {
            SchemaTables x = richDisk();
            giveAll(x, 3, BIG, BIG);
            x.limit(4);
            if (isRead) {
                x.read(0, 1, LONGS);
            }
            return x;
        };
        refused(tooShort, "stage of what lacks a number", x -> x.stage(LONGS), NONE);
    }

    private static void rowIsEmpty() {
        begin("an empty row");
        State state = isRead -> {
            SchemaTables x = rich(isRead);
            x.stage(LONGS);
            return x;
        };
        refused(state, "stage", x -> x.stage(LONGS), NONE);
        refused(state, "stage of what has no numbers, but is another schema", x -> x.stage(5), NONE);
    }

    private static void tenAreStaged() {
        begin("ten records are staged");
        State state = isRead -> {
            SchemaTables x = rich(isRead);
            while (x.stage(LONGS) != FULL) {
                x.give(0);
            }
            return x;
        };
        refused(state, "the eleventh", x -> x.stage(LONGS), FULL);
        refused(state, "another schema", x -> x.stage(INT), NONE);
        refused(state, "load where it is not registered", x -> x.load(1), NONE);
    }

    private static void bytesAreStaged() {
        begin("150 bytes are staged");
        State state = isRead -> {
            SchemaTables x = richDisk();
            stageBytes(x, 150);
            giveAll(x, 3, BIG, BIG, BIG);
            x.limit(4);
            if (isRead) {
                x.read(0, 1, LONGS);
            }
            return x;
        };
        refused(state, "32 bytes more", x -> x.stage(LONGS), FULL);
    }

    private static void nothingIsStaged() {
        begin("nothing is staged");
        State state = isRead -> {
            SchemaTables x = rich(isRead);
            x.drop();
            giveAll(x, 0);
            return x;
        };
        for (int subject = -1; subject <= 3; subject++) {
            int where = subject;
            refused(state, "load(" + subject + ")", x -> x.load(where), NONE);
        }
    }

    private static void nineFiles() {
        begin("nine files");
        State state = isRead -> {
            SchemaTables x = richDisk();
            x.drop();
            for (int i = 0; i < 5; i++) {
                loaded(x, 2, LONGS, 1, i);
            }
            staged(x, LONGS, 1, 9);
            giveAll(x, 1, 10);
            x.limit(4);
            if (isRead) {
                x.read(0, 1, LONGS);
            }
            return x;
        };
        refused(state, "load(0)", x -> x.load(0), FULL);
        refused(state, "load(2)", x -> x.load(2), FULL);
        refused(state, "load(1), not registered", x -> x.load(1), NONE);
    }

    /** Subject 0 has two files of four blocks, subject 2 six of five, and no block is free. */
    private static SchemaTables noBlocks(boolean isRead) {
        SchemaTables x = longs();
        x.register(2, LONGS);
        stageBytes(x, 100);
        x.load(0);
        stageBytes(x, 100);
        x.load(0);
        for (int i = 0; i < 6; i++) {
            stageBytes(x, 150);
            x.load(2);
        }
        staged(x, LONGS, 0);
        giveAll(x, 1, 10);
        x.limit(4);
        if (isRead) {
            x.read(0, 1, LONGS);
        }
        return x;
    }

    private static void noFreeBlocks() {
        begin("no free blocks");
        due("the last block", noBlocks(true).octet(39, 0) != 0, true);
        refused(RefusalsTest::noBlocks, "load", x -> x.load(0), FULL);
        refused(RefusalsTest::noBlocks, "compact", x -> x.compact(0), FULL);
        refused(RefusalsTest::noBlocks, "compact, no pair", x -> x.compact(2), 0);
    }

    private static void readFaultOrFull() {
        begin("a read that is a fault, or too long");
        State state = isRead -> {
            SchemaTables x = plain();
            due("4: no fields", x.make(RECORD, 0, 0, 0), 4);
            x.field(0, LONG, true, 5);
            x.field(1, LONG, true, 6);
            x.field(2, LONG, true, 7);
            due("5: three numbers", x.make(RECORD, 0, 0, 0), 5);
            for (int i = 4; i <= 5; i++) {
                int twice = x.make(ARRAY, 0, x.make(ARRAY, 0, i, 0), 0);
                x.field(0, twice, false, 0);
                x.field(1, twice, true, 0);
                x.make(RECORD, 1, 0, 0);
            }
            x.field(7, INT, false, 0);
            due("12: another field", x.make(RECORD, 1, 0, 0), 12);
            due("13: no field", x.make(RECORD, 1, 0, 0), 13);
            due("register", x.register(1, 8), 0);
            due("register", x.register(1, 11), 1);
            staged(x, 8, 3, 3, 3, 3, 1, 3);
            x.load(1);
            staged(x, 8, 2, 1, 0, 1, 1);
            x.load(1);
            x.register(2, 12);
            due("register", x.register(2, 13), 1);
            x.stage(13);
            x.load(2);
            staged(x, 12, 5);
            giveAll(x, 6);
            x.limit(3);
            if (isRead) {
                due("a read", x.read(1, 0, 8), 6);
            }
            return x;
        };
        refusedRead(state, 1, 0, 11, FULL);
        refusedRead(state, 2, 0, 12, FAULT);
    }

    private static long write(SchemaTables x, int call) {
        switch (call) {
            case 0:
                return x.register(1, SPARE);
            case 1:
                return x.load(0);
            default:
                return x.compact(0);
        }
    }

    /** The rich state, and then a call whose first write is not made. */
    private static SchemaTables downBy(int call, boolean isRead) {
        SchemaTables x = rich(isRead);
        x.limit(0);
        due("going down", write(x, call), DOWN);
        return x;
    }

    private static void down() {
        begin("a machine that is down");
        State down = isRead -> downBy(1, isRead);
        refused(down, "give", x -> x.give(1), DOWN);
        refused(down, "stage", x -> x.stage(LONGS), DOWN);
        refused(down, "stage of what has no numbers", x -> x.stage(NULL), DOWN);
        refused(down, "drop", x -> x.drop(), DOWN);
        refused(down, "register", x -> x.register(1, SPARE), DOWN);
        refused(down, "load", x -> x.load(0), DOWN);
        refused(down, "compact", x -> x.compact(0), DOWN);
        refused(down, "read", x -> x.read(0, 1, LONGS), DOWN);
        refused(down, "limit", x -> x.limit(0), DOWN);
        refused(down, "limit below 0", x -> x.limit(-1), DOWN);
        refused(down, "versions", x -> x.versions(0), NONE);
        refused(down, "version", x -> x.version(0, 0), NONE);
        refused(down, "records", x -> x.records(0), NONE);
        refused(down, "files", x -> x.files(0), NONE);
        refused(down, "number", x -> x.number(0), 0);
        refused(down, "octet", x -> x.octet(2, 0), 83);
    }

    private static void downRefusesToMake() {
        begin("a machine that is down, and schemas");
        State down = isRead -> downBy(2, isRead);
        refused(down, "field, the same name", x -> x.field(6, INT, false, 0), NONE);
        refused(down, "field, no schema", x -> x.field(0, NO_SCHEMA, false, 0), NONE);
        refused(down, "make, no kind", x -> x.make(8, 0, 0, 0), NONE);
        refused(down, "make, RECORD name", x -> x.make(RECORD, 8, 0, 0), NONE);
        refused(down, "make, too deep", x -> x.make(ARRAY, 0, DEEPEST, 0), NONE);
    }

    /** Which call it was does not matter: the row at hand, what is staged, the limit and the read's numbers are lost. */
    private static void goingDownLoses() {
        begin("a machine that goes down");
        for (int call = 0; call < 3; call++) {
            for (Look look : LOOKS) {
                dueAlike("going down by call " + call, look, downBy(call, true), downBy((call + 1) % 3, false));
                SchemaTables x = downBy(call, true);
                x.restart();
                SchemaTables twin = rich(false);
                twin.drop();
                twin.limit(MOST);
                dueAlike("what is lost by call " + call, look, x, twin);
            }
        }
    }
}
