/** For each promise of the document: ordinary calls, the edges that it names, and wrong calls. */
public final class PromisesTest extends Cases {
    public static void main(String[] args) {
        newObject();
        fieldCountsAndRefuses();
        fieldDefaults();
        fieldsWaitForTheirRecord();
        makeNumbers();
        makeEnums();
        makeUnions();
        makeRecords();
        makeDepth();
        canReadPlain();
        canReadEnums();
        canReadUnions();
        canReadRecords();
        register();
        registerOrder();
        versions();
        give();
        stageValues();
        stageCodes();
        stageRefuses();
        stageFull();
        drop();
        load();
        loadRefuses();
        loadStopsAtAnyWrite();
        filePlaces();
        compact();
        compactPairs();
        compactBounds();
        compactFull();
        compactStopsAtAnyWrite();
        readRefuses();
        readResolves();
        readUnions();
        readRecords();
        readDefaults();
        readFull();
        number();
        recordsAndFiles();
        octet();
        limit();
        restart();
        writes();
        CHECK.end();
    }

    private static void newObject() {
        begin("promise 1, a new object");
        SchemaTables x = new SchemaTables();
        due("canRead(0, 0)", x.canRead(0, 0), false);
        due("register(0, 0)", x.register(0, 0), NONE);
        for (int subject = 0; subject < 3; subject++) {
            due("versions", x.versions(subject), 0);
            due("records", x.records(subject), 0);
            due("files", x.files(subject), 0);
            due("compact", x.compact(subject), 0);
            due("load", x.load(subject), NONE);
        }
        due("number(0)", x.number(0), 0);
        due("writes()", x.writes(), 0);
        due("restart()", x.restart(), false);
        for (int block = 0; block < 40; block += 13) {
            dueBlock(x, block);
        }
        due("give(0)", x.give(0), 1);
        due("make", x.make(INT, 0, 0, 0), 0);
        due("no limit", x.register(0, 0), 0);
        due("field", x.field(0, 0, false, 0), 1);
    }

    private static void fieldCountsAndRefuses() {
        begin("promise 2, field");
        SchemaTables x = plain();
        due("name below", x.field(-1, 2, false, 0), NONE);
        due("name above", x.field(8, 2, false, 0), NONE);
        due("schema below", x.field(0, -1, false, 0), NONE);
        due("schema above", x.field(0, 4, false, 0), NONE);
        due("first", x.field(7, 2, false, 0), 1);
        due("same name", x.field(7, 3, false, 0), NONE);
        due("second", x.field(0, 2, true, 5), 2);
        due("same name", x.field(0, 2, false, 0), NONE);
        due("third, its value not looked at", x.field(3, 1, false, 99), 3);
        due("fourth", x.field(1, 2, false, 0), NONE);
        due("record", x.make(RECORD, 0, 0, 0), 4);
        due("names are free again", x.field(7, 4, false, 0), 1);
    }

    /** What field answers for a default of a schema, on an object that has no fields yet. */
    private static int withDefault(int[] makes, long value) {
        SchemaTables x = plain();
        int last = 0;
        for (int i = 0; i < makes.length; i += 4) {
            last = x.make(makes[i], makes[i + 1], makes[i + 2], makes[i + 3]);
        }
        return x.field(0, last, true, value);
    }

    private static void dueDefaults(String name, int[] makes, long[] good, long[] bad) {
        for (long value : good) {
            due(name + " default " + value, withDefault(makes, value), 1);
        }
        for (long value : bad) {
            due(name + " default " + value, withDefault(makes, value), NONE);
        }
    }

    private static void fieldDefaults() {
        begin("promise 2, defaults");
        long big = 1L << 32;
        dueDefaults("NULL", new int[] {NULL, 0, 0, 0}, new long[] {0}, new long[] {1, -1, big});
        dueDefaults("BOOLEAN", new int[] {BOOLEAN, 0, 0, 0}, new long[] {0, 1}, new long[] {2, -1, big, big + 1});
        dueDefaults("INT", new int[] {INT, 0, 0, 0}, new long[] {0, Integer.MAX_VALUE, Integer.MIN_VALUE},
            new long[] {Integer.MAX_VALUE + 1L, Integer.MIN_VALUE - 1L, Long.MAX_VALUE, Long.MIN_VALUE});
        dueDefaults("LONG", new int[] {LONG, 0, 0, 0}, new long[] {0, Long.MAX_VALUE, Long.MIN_VALUE}, new long[0]);
        dueDefaults("ENUM", new int[] {ENUM, 0, 0b10000110, NONE}, new long[] {1, 2, 7},
            new long[] {0, 3, 8, -1, 33, 65, big + 1, Long.MIN_VALUE + 1});
        dueDefaults("ARRAY", new int[] {ARRAY, 0, 2, 0}, new long[] {0}, new long[] {1, -1, big});
        dueDefaults("RECORD", new int[] {RECORD, 0, 0, 0}, new long[0], new long[] {0, 1});
        dueDefaults("UNION of NULL", new int[] {UNION, 0, 0, 2}, new long[] {0}, new long[] {1, 5});
        dueDefaults("UNION of INT", new int[] {UNION, 0, 2, 0}, new long[] {0, -7}, new long[] {big});
        dueDefaults("UNION of LONG", new int[] {UNION, 0, 3, 2}, new long[] {big}, new long[0]);
        dueDefaults("UNION of BOOLEAN", new int[] {UNION, 0, 1, 2}, new long[] {1}, new long[] {2});
        dueDefaults("UNION of ENUM", new int[] {ENUM, 0, 4, NONE, UNION, 0, 4, 2}, new long[] {2}, new long[] {0, 1});
        dueDefaults("UNION of ARRAY", new int[] {ARRAY, 0, 2, 0, UNION, 0, 4, 2}, new long[] {0}, new long[] {1});
        dueDefaults("UNION of RECORD", new int[] {RECORD, 0, 0, 0, UNION, 0, 4, 2}, new long[0], new long[] {0, 1});
        dueDefaults("UNION with RECORD", new int[] {RECORD, 0, 0, 0, UNION, 0, 2, 4}, new long[] {0, 9}, new long[] {big});
    }

    private static void fieldsWaitForTheirRecord() {
        begin("promise 2, fields wait");
        SchemaTables x = plain();
        due("field", x.field(0, 2, false, 0), 1);
        due("another kind", x.make(ARRAY, 0, 2, 0), 4);
        due("refused record", x.make(RECORD, 8, 0, 0), NONE);
        due("refused kind", x.make(9, 0, 0, 0), NONE);
        goDown(x);
        due("while down", x.field(1, 1, false, 0), 2);
        due("restart", x.restart(), true);
        due("drop", x.drop(), 0);
        due("field", x.field(2, 3, false, 0), 3);
        due("record", x.make(RECORD, 1, 0, 0), 5);
        due("the fields in order", staged(x, 5, -1, 1, 300), 1 + 1 + 2);
        due("none are given for the next", x.make(RECORD, 1, 0, 0), 6);
        due("drop", x.drop(), 0);
        due("a record without fields", x.stage(6), 0);
    }

    private static void makeNumbers() {
        begin("promise 3, make");
        SchemaTables x = new SchemaTables();
        due("kind below", x.make(-1, 0, 0, 0), NONE);
        due("kind above", x.make(8, 0, 0, 0), NONE);
        due("ARRAY of none", x.make(ARRAY, 0, 0, 0), NONE);
        due("UNION of none", x.make(UNION, 0, 0, 0), NONE);
        due("NULL looks at nothing", x.make(NULL, -5, 99, -99), 0);
        due("BOOLEAN looks at nothing", x.make(BOOLEAN, 8, -1, 77), 1);
        due("INT looks at nothing", x.make(INT, 8, -1, 77), 2);
        due("LONG looks at nothing", x.make(LONG, Integer.MIN_VALUE, Integer.MAX_VALUE, 77), 3);
        due("ARRAY looks at its item alone", x.make(ARRAY, 99, 3, -1), 4);
        due("UNION looks at its branches alone", x.make(UNION, -1, 0, 3), 5);
        due("RECORD looks at its name alone", x.make(RECORD, 7, -1, 99), 6);
        due("ARRAY below", x.make(ARRAY, 0, -1, 0), NONE);
        due("ARRAY above", x.make(ARRAY, 0, 7, 0), NONE);
        for (int i = 7; i < 24; i++) {
            due("make", x.make(INT, 0, 0, 0), i);
        }
        due("the 25th", x.make(INT, 0, 0, 0), NONE);
        due("field", x.field(0, 23, false, 0), 1);
        due("the 25th", x.make(RECORD, 0, 0, 0), NONE);
        due("its field is not lost", x.field(1, 23, false, 0), 2);
        due("no schema 24", x.canRead(24, 24), false);
    }

    private static void makeEnums() {
        begin("promise 3, ENUM");
        SchemaTables x = new SchemaTables();
        due("name below", x.make(ENUM, -1, 1, NONE), NONE);
        due("name above", x.make(ENUM, 8, 1, NONE), NONE);
        due("no symbols", x.make(ENUM, 0, 0, NONE), NONE);
        due("symbols below", x.make(ENUM, 0, -1, NONE), NONE);
        due("symbols above", x.make(ENUM, 0, 256, NONE), NONE);
        due("symbols above", x.make(ENUM, 0, 257, 0), NONE);
        due("default not a symbol", x.make(ENUM, 0, 0b101, 1), NONE);
        due("default below", x.make(ENUM, 0, 255, -2), NONE);
        due("default above", x.make(ENUM, 0, 255, 8), NONE);
        due("default that a shift would wrap", x.make(ENUM, 0, 255, 32), NONE);
        due("all symbols", x.make(ENUM, 7, 255, 7), 0);
        due("one symbol", x.make(ENUM, 0, 1, 0), 1);
        due("no default", x.make(ENUM, 0, 128, NONE), 2);
    }

    private static void makeUnions() {
        begin("promise 3, UNION");
        SchemaTables x = plain();
        due("ENUM 4", x.make(ENUM, 1, 3, NONE), 4);
        due("ENUM 5, same name", x.make(ENUM, 1, 12, NONE), 5);
        due("ENUM 6", x.make(ENUM, 2, 3, NONE), 6);
        due("RECORD 7", x.make(RECORD, 1, 0, 0), 7);
        due("RECORD 8, same name", x.make(RECORD, 1, 0, 0), 8);
        due("RECORD 9", x.make(RECORD, 2, 0, 0), 9);
        due("ARRAY 10", x.make(ARRAY, 0, 2, 0), 10);
        due("ARRAY 11", x.make(ARRAY, 0, 3, 0), 11);
        for (int s = 0; s < 12; s++) {
            due("both the same schema", x.make(UNION, 0, s, s), NONE);
        }
        due("ENUMs of one name", x.make(UNION, 0, 4, 5), NONE);
        due("RECORDs of one name", x.make(UNION, 0, 7, 8), NONE);
        due("ARRAYs", x.make(UNION, 0, 10, 11), NONE);
        due("branch 0 not there", x.make(UNION, 0, 12, 2), NONE);
        due("branch 1 not there", x.make(UNION, 0, 2, 12), NONE);
        due("branch 0 below", x.make(UNION, 0, -1, 2), NONE);
        due("branch 1 below", x.make(UNION, 0, 2, -1), NONE);
        due("INT and LONG", x.make(UNION, 0, 2, 3), 12);
        due("branch 0 a UNION", x.make(UNION, 0, 12, 0), NONE);
        due("branch 1 a UNION", x.make(UNION, 0, 0, 12), NONE);
        due("ENUMs of two names", x.make(UNION, 0, 4, 6), 13);
        due("RECORDs of two names", x.make(UNION, 0, 7, 9), 14);
        due("ENUM and RECORD of one name", x.make(UNION, 0, 4, 7), 15);
    }

    private static void makeRecords() {
        begin("promise 3, RECORD");
        SchemaTables x = plain();
        due("name below", x.make(RECORD, -1, 0, 0), NONE);
        due("name above", x.make(RECORD, 8, 0, 0), NONE);
        due("none", x.make(RECORD, 0, 0, 0), 4);
        due("field", x.field(5, 2, false, 0), 1);
        due("field", x.field(4, 1, false, 0), 2);
        due("two", x.make(RECORD, 0, 0, 0), 5);
        due("none again", x.make(RECORD, 0, 0, 0), 6);
        due("the row of none is empty", x.stage(6), 0);
        due("drop", x.drop(), 0);
        due("INT, then BOOLEAN", staged(x, 5, 2, 1), 2);
        due("BOOLEAN, then INT", staged(x, 5, 1, 2), NONE);
        goDown(x);
        due("while down", x.make(RECORD, 3, 0, 0), 7);
    }

    private static void makeDepth() {
        begin("promise 3, depth");
        SchemaTables x = plain();
        due("2", x.make(ARRAY, 0, 2, 0), 4);
        x.field(0, 4, false, 0);
        x.field(1, 2, false, 0);
        due("3, by the first field", x.make(RECORD, 0, 0, 0), 5);
        due("4, by branch 1", x.make(UNION, 0, 0, 5), 6);
        x.field(0, 2, false, 0);
        x.field(1, 0, false, 0);
        x.field(2, 6, false, 0);
        due("5, by the last field", x.make(RECORD, 0, 0, 0), 7);
        due("6, by branch 0", x.make(UNION, 0, 7, 0), 8);
        due("6", x.make(ARRAY, 0, 7, 0), 9);
        due("7", x.make(ARRAY, 0, 8, 0), NONE);
        due("7, by branch 0", x.make(UNION, 0, 9, 0), NONE);
        due("7, by branch 1", x.make(UNION, 0, 0, 9), NONE);
        due("a field of depth 6 is taken", x.field(0, 9, false, 0), 1);
        due("but not its record", x.make(RECORD, 0, 0, 0), NONE);
        due("whose field stays", x.field(0, 2, false, 0), NONE);
        due("other makes go on", x.make(INT, 0, 0, 0), 10);
    }

    private static void dueReads(SchemaTables x, int reader, int writer, boolean want) {
        due("canRead(" + reader + ", " + writer + ")", x.canRead(reader, writer), want);
    }

    private static void canReadPlain() {
        begin("promise 4, canRead");
        SchemaTables x = plain();
        for (int r = 0; r < 4; r++) {
            for (int w = 0; w < 4; w++) {
                dueReads(x, r, w, r == w || r == LONG && w == INT);
            }
        }
        dueReads(x, -1, 0, false);
        dueReads(x, 0, -1, false);
        dueReads(x, 4, 0, false);
        dueReads(x, 0, 4, false);
        due("ARRAY of INT", x.make(ARRAY, 0, 2, 0), 4);
        due("ARRAY of LONG", x.make(ARRAY, 0, 3, 0), 5);
        dueReads(x, 5, 4, true);
        dueReads(x, 4, 5, false);
        dueReads(x, 4, 2, false);
        dueReads(x, 2, 4, false);
        goDown(x);
        dueReads(x, 5, 4, true);
    }

    private static void canReadEnums() {
        begin("promise 4, ENUM");
        SchemaTables x = new SchemaTables();
        x.make(ENUM, 1, 0b011, NONE);
        x.make(ENUM, 1, 0b111, NONE);
        x.make(ENUM, 1, 0b100, 2);
        x.make(ENUM, 2, 0b111, 0);
        dueReads(x, 1, 0, true);
        dueReads(x, 0, 1, false);
        dueReads(x, 2, 1, true);
        dueReads(x, 2, 0, true);
        dueReads(x, 0, 2, false);
        dueReads(x, 3, 0, false);
        dueReads(x, 0, 3, false);
    }

    private static void canReadUnions() {
        begin("promise 4, UNION");
        SchemaTables x = plain();
        due("INT or NULL", x.make(UNION, 0, 2, 0), 4);
        due("NULL or LONG", x.make(UNION, 0, 0, 3), 5);
        dueReads(x, 5, 4, true);
        dueReads(x, 4, 5, false);
        dueReads(x, 4, 2, true);
        dueReads(x, 4, 0, true);
        dueReads(x, 4, 1, false);
        dueReads(x, 2, 4, false);
        dueReads(x, 0, 4, false);
        due("INT or LONG", x.make(UNION, 0, 2, 3), 6);
        dueReads(x, 3, 6, true);
        dueReads(x, 2, 6, false);
        due("ENUM with both", x.make(ENUM, 1, 3, NONE), 7);
        due("ENUM with one", x.make(ENUM, 1, 1, NONE), 8);
        due("ENUM of another name", x.make(ENUM, 2, 3, NONE), 9);
        due("other name, then one", x.make(UNION, 0, 9, 8), 10);
        dueReads(x, 10, 8, true);
        dueReads(x, 10, 9, true);
        dueReads(x, 10, 7, false);
        x.field(0, 2, false, 0);
        due("RECORD 11 wants a field", x.make(RECORD, 1, 0, 0), 11);
        due("RECORD 12 without", x.make(RECORD, 1, 0, 0), 12);
        due("ARRAY of 11", x.make(ARRAY, 0, 11, 0), 13);
        due("ARRAY of 12", x.make(ARRAY, 0, 12, 0), 14);
        due("ARRAY of UNION", x.make(ARRAY, 0, 4, 0), 15);
        due("ARRAY of BOOLEAN", x.make(ARRAY, 0, 1, 0), 16);
        due("ARRAY of INT", x.make(ARRAY, 0, 2, 0), 17);
        due("13 or NULL", x.make(UNION, 0, 13, 0), 18);
        dueReads(x, 18, 14, false);
        dueReads(x, 18, 17, false);
        due("15 or NULL", x.make(UNION, 0, 15, 0), 19);
        dueReads(x, 19, 17, true);
        dueReads(x, 19, 16, false);
        due("16 or NULL", x.make(UNION, 0, 16, 0), 20);
        dueReads(x, 20, 17, false);
        dueReads(x, 20, 15, false);
        dueReads(x, 17, 15, false);
    }

    private static void canReadRecords() {
        begin("promise 4, RECORD");
        SchemaTables x = plain();
        x.field(0, 2, false, 0);
        x.field(1, 1, false, 0);
        due("4: INT a, BOOLEAN b", x.make(RECORD, 3, 0, 0), 4);
        x.field(1, 1, false, 0);
        x.field(0, 3, false, 0);
        due("5: BOOLEAN b, LONG a", x.make(RECORD, 3, 0, 0), 5);
        x.field(0, 2, false, 0);
        x.field(2, 1, true, 0);
        due("6: INT a, BOOLEAN c = 0", x.make(RECORD, 3, 0, 0), 6);
        x.field(0, 2, false, 0);
        due("7: INT a, of another name", x.make(RECORD, 4, 0, 0), 7);
        x.field(0, 1, true, 1);
        due("8: BOOLEAN a = 1", x.make(RECORD, 3, 0, 0), 8);
        due("9: nothing", x.make(RECORD, 3, 0, 0), 9);
        dueReads(x, 5, 4, true);
        dueReads(x, 4, 5, false);
        dueReads(x, 6, 4, true);
        dueReads(x, 4, 6, false);
        dueReads(x, 7, 4, false);
        dueReads(x, 8, 4, false);
        dueReads(x, 8, 9, true);
        dueReads(x, 9, 4, true);
        dueReads(x, 9, 7, false);
        dueReads(x, 4, 9, false);
    }

    private static void register() {
        begin("promise 5, register");
        SchemaTables x = plain();
        due("subject below", x.register(-1, 2), NONE);
        due("subject above", x.register(3, 2), NONE);
        due("schema below", x.register(0, -1), NONE);
        due("schema above", x.register(0, 4), NONE);
        due("nothing was written", x.writes(), 0);
        due("INT", x.register(0, 2), 0);
        due("again", x.register(0, 2), NONE);
        due("under another subject", x.register(2, 2), 0);
        due("LONG reads INT", x.register(0, 3), 1);
        due("an own schema of the same form", x.make(INT, 0, 0, 0), 4);
        due("INT does not read LONG", x.register(0, 4), FAULT);
        due("but under 2 it does", x.register(2, 4), 1);
        due("BOOLEAN", x.register(2, 1), FAULT);
        due("LONG", x.register(2, 3), 2);
        due("five writes", x.writes(), 5);
        dueBytes(x, 1, 0, 5, 0, 2, 2, 2, 0, 3, 2, 4, 2, 3, 0, 0);
        due("the manifest is as it was", x.octet(0, 0), 0);
    }

    private static void registerOrder() {
        begin("promise 5, reasons in order");
        SchemaTables x = plain();
        for (int i = 0; i < 6; i++) {
            x.make(INT, 0, 0, 0);
            due("register", x.register(1, 4 + i), i);
        }
        for (int i = 0; i < 4; i++) {
            due("register", x.register(2, 4 + i), i);
        }
        due("ten in all", x.register(0, 0), NONE);
        due("ten in all, before FAULT", x.register(1, 0), NONE);
        due("writes", x.writes(), 10);
        dueBytes(x, 1, 0, 10, 1, 4);
        dueBytes(x, 1, 19, 2, 7, 0);
        x = plain();
        x.register(0, 3);
        x.limit(0);
        due("NONE goes before the write", x.register(0, 3), NONE);
        due("FAULT goes before the write", x.register(0, 2), FAULT);
        due("the write is not made", x.register(1, 2), DOWN);
        due("nor is it while down", x.register(1, 2), DOWN);
        due("DOWN first", x.register(-1, 99), DOWN);
        x.restart();
        due("it is not registered", x.versions(1), 0);
        dueBytes(x, 1, 0, 1, 0, 3, 0, 0);
        due("now it is", x.register(1, 2), 0);
    }

    private static void versions() {
        begin("promises 6 and 7, versions and version");
        SchemaTables x = plain();
        x.register(1, 2);
        x.register(0, 1);
        x.register(1, 3);
        due("versions(0)", x.versions(0), 1);
        due("versions(1)", x.versions(1), 2);
        due("versions(2)", x.versions(2), 0);
        due("versions(-1)", x.versions(-1), NONE);
        due("versions(3)", x.versions(3), NONE);
        due("version(1, 0)", x.version(1, 0), 2);
        due("version(1, 1)", x.version(1, 1), 3);
        due("version(1, 2)", x.version(1, 2), NONE);
        due("version(1, -1)", x.version(1, -1), NONE);
        due("version(0, 0)", x.version(0, 0), 1);
        due("version(0, 1)", x.version(0, 1), NONE);
        due("version(2, 0)", x.version(2, 0), NONE);
        due("version(-1, 0)", x.version(-1, 0), NONE);
        due("version(3, 0)", x.version(3, 0), NONE);
        goDown(x);
        due("versions while down", x.versions(1), NONE);
        due("version while down", x.version(1, 0), NONE);
        due("restart", x.restart(), true);
        due("versions(1)", x.versions(1), 2);
        due("version(1, 1)", x.version(1, 1), 3);
    }

    private static void give() {
        begin("promise 8, give");
        SchemaTables x = plain();
        for (int i = 1; i <= 24; i++) {
            due("give", x.give(i), i);
        }
        due("the 25th", x.give(25), NONE);
        due("the row is as it was", x.stage(3), NONE);
        due("the 25th", x.give(25), NONE);
        x.drop();
        due("give", x.give(Long.MIN_VALUE), 1);
        due("stage", x.stage(3), 10);
        due("an empty row again", x.give(5), 1);
        goDown(x);
        due("while down", x.give(5), DOWN);
        x.restart();
        due("the row was lost", x.give(5), 1);
    }

    private static void dueStaged(int[] makes, long[][] good, long[][] bad) {
        SchemaTables x = plain();
        int last = 0;
        for (int i = 0; i < makes.length; i += 4) {
            last = x.make(makes[i], makes[i + 1], makes[i + 2], makes[i + 3]);
        }
        for (long[] row : good) {
            due("stage of kind " + makes[makes.length - 4] + ", a value", staged(x, last, row) >= 0, true);
            x.drop();
        }
        for (long[] row : bad) {
            due("stage of kind " + makes[makes.length - 4] + ", no value", staged(x, last, row), NONE);
            due("the row stays", x.give(0), row.length + 1);
            x.drop();
        }
    }

    private static void stageValues() {
        begin("promise 9, stage: values");
        long big = 1L << 32;
        dueStaged(new int[] {NULL, 0, 0, 0}, new long[][] {{}}, new long[][] {{0}, {1, 2}});
        dueStaged(new int[] {BOOLEAN, 0, 0, 0}, new long[][] {{0}, {1}}, new long[][] {{}, {2}, {-1}, {big}, {0, 0}});
        dueStaged(new int[] {INT, 0, 0, 0}, new long[][] {{Integer.MAX_VALUE}, {Integer.MIN_VALUE}},
            new long[][] {{}, {Integer.MAX_VALUE + 1L}, {Integer.MIN_VALUE - 1L}, {big}, {1, 1}});
        dueStaged(new int[] {LONG, 0, 0, 0}, new long[][] {{Long.MAX_VALUE}, {Long.MIN_VALUE}}, new long[][] {{}, {1, 1}});
        dueStaged(new int[] {ENUM, 0, 0b10010, NONE}, new long[][] {{1}, {4}},
            new long[][] {{}, {0}, {2}, {8}, {-1}, {33}, {65}, {big + 1}, {1, 1}});
        dueStaged(new int[] {ENUM, 0, 0b10010, 4}, new long[][] {{1}, {4}}, new long[][] {{0}});
        dueStaged(new int[] {ARRAY, 0, 2, 0}, new long[][] {{0}, {1, 5}, {3, 1, 2, 3}},
            new long[][] {{}, {1}, {0, 5}, {2, 5}, {4, 1, 2, 3, 4}, {-1}, {big}, {1, big}, {3, 1, 2, 3, 4}});
        dueStaged(new int[] {ARRAY, 0, 0, 0}, new long[][] {{0}, {3}}, new long[][] {{4}, {3, 0}});
        dueStaged(new int[] {UNION, 0, 0, 2}, new long[][] {{0}, {1, 5}},
            new long[][] {{}, {1}, {0, 0}, {2, 5}, {-1, 5}, {big}, {big + 1, 5}, {1, big}});
        dueStaged(new int[] {ARRAY, 0, 2, 0, ARRAY, 0, 4, 0}, new long[][] {{2, 0, 1, 7}, {1, 3, 1, 2, 3}},
            new long[][] {{1, 4, 1, 2, 3, 4}, {2, 0}, {2, 1, 7}});
    }

    private static void stageCodes() {
        begin("promise 9, stage: bytes");
        SchemaTables x = plain();
        long[] numbers = {0, -1, 1, 63, -64, 64, -65, 8191, 8192, -8192, 1L << 20, Integer.MAX_VALUE, Long.MAX_VALUE,
            Long.MIN_VALUE};
        int[] lengths = {1, 1, 1, 1, 1, 2, 2, 2, 3, 2, 4, 5, 10, 10};
        for (int i = 0; i < numbers.length; i++) {
            due("bytes of " + numbers[i], staged(x, 3, numbers[i]), lengths[i]);
            x.drop();
        }
        x.register(0, 3);
        for (int i = 0; i < 7; i++) {
            staged(x, 3, numbers[i]);
        }
        staged(x, 3, Long.MIN_VALUE);
        staged(x, 3, Long.MAX_VALUE);
        due("load", x.load(0), 9);
        dueBytes(x, 2, 0, 83, 3, 9, 0, 29, 0, 1, 2, 126, 127, 128, 1, 129, 1);
        dueBytes(x, 2, 14, 255, 255, 255, 255, 255, 255, 255, 255, 255, 1, 254, 255, 255, 255, 255, 255, 255, 255, 255, 1);
        x = plain();
        x.make(ENUM, 0, 0b11010010, NONE);
        x.make(UNION, 0, 4, 1);
        x.make(ARRAY, 0, 5, 0);
        x.field(0, 6, false, 0);
        x.field(1, 0, false, 0);
        x.field(2, 1, false, 0);
        x.make(RECORD, 0, 0, 0);
        x.register(1, 7);
        due("two items", staged(x, 7, 2, 0, 7, 1, 1, 1), 7);
        due("no item", staged(x, 7, 0, 0), 2);
        due("three items", staged(x, 7, 3, 0, 1, 0, 4, 0, 6, 1), 9);
        due("load", x.load(1), 3);
        dueBytes(x, 2, 0, 83, 7, 3, 0, 18, 4, 0, 6, 2, 1, 0, 1, 0, 0, 6, 0, 0, 0, 2, 0, 4, 0, 1);
    }

    private static void stageRefuses() {
        begin("promise 9, stage: refusals");
        SchemaTables x = plain();
        x.give(5);
        due("schema below", x.stage(-1), NONE);
        due("schema above", x.stage(4), NONE);
        due("the row stays", x.stage(2), 1);
        x.give(6);
        due("another schema is staged", x.stage(3), NONE);
        due("the row stays", x.stage(2), 1);
        x.give(7);
        x.give(8);
        due("no value, though it begins like one", x.stage(2), NONE);
        x.register(0, 2);
        due("load(0)", x.load(0), 2);
        dueBytes(x, 2, 0, 83, 2, 2, 0, 2, 10, 12);
        x.drop();
        due("after drop another is taken", staged(x, 3, 6), 1);
        x.register(0, 3);
        x.load(0);
        due("after load another is taken", staged(x, 2, 6), 1);
        x.drop();
        x.make(ARRAY, 0, 2, 0);
        due("no item where one is due", staged(x, 4, 2, 5), NONE);
        due("it is there now", staged(x, 4, 6), 4);
        x.register(2, 4);
        due("load(2)", x.load(2), 1);
        dueRecord(x, 2, 0, 4, 2, 5, 6);
        staged(x, 2, 6);
        x.give(6);
        goDown(x);
        due("while down", x.stage(2), DOWN);
        due("DOWN first", x.stage(-1), DOWN);
        x.restart();
        due("the row was lost", x.stage(2), NONE);
        x.register(1, 2);
        due("what was staged, too", x.load(1), NONE);
    }

    private static void stageFull() {
        begin("promise 9, stage: full");
        SchemaTables x = plain();
        for (int i = 0; i < 10; i++) {
            due("stage", staged(x, 2, i), 1);
        }
        due("the eleventh", staged(x, 2, 99), FULL);
        due("another schema goes first", x.stage(3), NONE);
        x.give(98);
        due("no value goes first", x.stage(2), NONE);
        x.register(0, 2);
        due("load", x.load(0), 10);
        due("the row stays", x.give(97), 3);
        x = longs();
        stage128(x);
        due("23 more", staged(x, 4, 3, BIG, BIG, 1), FULL);
        due("the row stays", x.give(0), 5);
        x.drop();
        stage128(x);
        due("22 more", staged(x, 4, 2, BIG, BIG), 22);
        due("1 more", staged(x, 4, 0), FULL);
        due("load", x.load(0), 5);
        due("nothing but the 150 bytes", x.octet(2, 4), 150);
        due("the row is taken now", x.stage(4), 1);
        x = longs();
        x.field(0, 4, false, 0);
        x.field(1, 4, false, 0);
        x.field(2, 3, false, 0);
        due("a record", x.make(RECORD, 0, 0, 0), 5);
        due("three of them", x.make(ARRAY, 0, 5, 0), 6);
        due("two", staged(x, 6, 2, 3, BIG, BIG, BIG, 2, BIG, BIG, BIG, 3, BIG, BIG, BIG, 1, BIG, BIG), 1 + 64 + 54 + 1);
        x.drop();
        giveAll(x, 3, 3, BIG, BIG, BIG, 3, BIG, BIG, BIG, BIG, 2, BIG, BIG, 2, BIG, BIG, BIG, 2, BIG, BIG, 1, BIG, BIG);
        due("alone too long", x.stage(6), FULL);
        due("the row stays", x.give(0), 24);
    }

    private static void stage128(SchemaTables x) {
        for (int i = 0; i < 4; i++) {
            due("32 bytes", staged(x, 4, 3, BIG, BIG, BIG), 32);
        }
    }

    private static void drop() {
        begin("promise 10, drop");
        SchemaTables x = plain();
        x.register(0, 2);
        due("drop of nothing", x.drop(), 0);
        staged(x, 2, 5);
        x.give(6);
        due("drop", x.drop(), 0);
        due("nothing staged", x.load(0), NONE);
        due("the row is empty", x.give(7), 1);
        due("what was read stays", x.stage(2), 1);
        x.load(0);
        x.read(0, 0, 2);
        x.drop();
        dueNumbers(x, 7);
        due("fields stay", x.field(0, 2, false, 0), 1);
        x.drop();
        due("fields stay", x.field(1, 2, false, 0), 2);
        goDown(x);
        due("while down", x.drop(), DOWN);
    }

    private static void load() {
        begin("promise 11, load");
        SchemaTables x = plain();
        x.register(1, 2);
        x.register(0, 2);
        staged(x, 2, 7);
        x.give(9);
        due("load(1)", x.load(1), 1);
        due("register, register, file, manifest", x.writes(), 4);
        dueBytes(x, 0, 0, 1, 1, 2, 1, 0, 0, 0);
        dueBytes(x, 2, 0, 83, 2, 1, 0, 1, 14, (83 + 2 + 1 + 1 + 14) % 251, 0);
        due("nothing is staged then", x.load(1), NONE);
        due("the row at hand stays", x.stage(2), 1);
        due("stage", staged(x, 2, -3), 1);
        due("load(1), the records of its table", x.load(1), 3);
        staged(x, 2, 1);
        due("load(0)", x.load(0), 1);
        dueBytes(x, 0, 0, 3, 1, 2, 1, 1, 3, 1, 0, 4, 1, 0, 0);
        dueBytes(x, 3, 0, 83, 2, 2, 0, 2, 18, 5, (83 + 2 + 2 + 2 + 18 + 5) % 251, 0);
        x = longs();
        stage128(x);
        staged(x, 4, 2, BIG, BIG);
        due("load(0)", x.load(0), 5);
        dueBytes(x, 0, 0, 1, 0, 2, 5, 0);
        int long10 = 254 + 8 * 255 + 1;
        dueBytes(x, 2, 0, 83, 4, 5, 0, 150, 6, 254, 255);
        dueBytes(x, 2, 154, 0, (83 + 4 + 5 + 150 + 4 * 6 + 4 + 14 * long10) % 251, 0, 0, 0, 0);
        x = plain();
        x.register(2, 0);
        for (int i = 0; i < 10; i++) {
            due("a record without bytes", x.stage(0), 0);
        }
        due("load(2)", x.load(2), 10);
        dueBytes(x, 2, 0, 83, 0, 10, 0, 0, 93, 0);
        x = longs();
        staged(x, 4, 3, BIG, BIG, 8191);
        staged(x, 4, 0);
        staged(x, 4, 0);
        due("26 bytes, one block", x.load(0), 3);
        staged(x, 4, 3, BIG, BIG, 8191);
        staged(x, 4, 1, 0);
        due("27 bytes, two blocks", x.load(0), 5);
        dueBytes(x, 0, 0, 2, 0, 2, 1, 0, 3, 2, 0);
        dueBytes(x, 4, 0, (83 + 4 + 2 + 27 + 6 + 2 * long10 + 254 + 127 + 2) % 251, 0);
    }

    private static void loadRefuses() {
        begin("promise 11, load refuses");
        SchemaTables x = longs();
        due("nothing is staged", x.load(0), NONE);
        staged(x, 4, 0);
        due("subject below", x.load(-1), NONE);
        due("subject above", x.load(3), NONE);
        due("not registered there", x.load(1), NONE);
        due("what is staged stays", x.load(0), 1);
        for (int i = 0; i < 6; i++) {
            stage128(x);
            due("150 bytes", staged(x, 4, 2, BIG, BIG), 22);
            due("load(0)", x.load(0), 6 + 5 * i);
        }
        dueBytes(x, 0, 0, 7, 0, 2, 1, 0, 3, 5, 0, 8, 5);
        stage90(x);
        due("96 bytes, blocks 33, 34 and 35", x.load(0), 34);
        stage128(x);
        int before = x.writes();
        due("five blocks, but four are free", x.load(0), FULL);
        due("nothing was written", x.writes(), before);
        due("what is staged stays", staged(x, 4, 2, BIG, BIG), 22);
        x.drop();
        stage90(x);
        staged(x, 4, 0);
        due("97 bytes, the last four blocks", x.load(0), 38);
        dueBytes(x, 0, 22, 0, 33, 3, 0, 36, 4, 0);
        staged(x, 4, 0);
        due("no free block", x.load(0), FULL);
        due("NONE goes before FULL", x.load(1), NONE);
        x.limit(0);
        due("FULL goes before the write", x.load(0), FULL);
        due("down", x.register(1, 4), DOWN);
        due("while down", x.load(0), DOWN);
        due("DOWN first", x.load(-1), DOWN);
        x = plain();
        x.register(0, 2);
        for (int i = 1; i <= 9; i++) {
            due("load(0)", loaded(x, 0, 2, i), i);
        }
        x.register(1, 2);
        due("nine files in all", loaded(x, 1, 2, 10), FULL);
        due("what is staged stays", x.stage(0), NONE);
        due("compact(0)", x.compact(0), 1);
        due("now there is room", x.load(1), 1);
    }

    private static void stage90(SchemaTables x) {
        staged(x, 4, 3, BIG, BIG, BIG);
        staged(x, 4, 3, BIG, BIG, BIG);
        due("26 bytes", staged(x, 4, 3, BIG, BIG, 1L << 26), 26);
    }

    private static void loadStopsAtAnyWrite() {
        for (int made = 0; made <= 4; made++) {
            begin("promise 11, load after which only " + made + " writes are made");
            SchemaTables x = longs();
            loaded(x, 0, 4, 1, 5);
            x.read(0, 0, 4);
            staged(x, 4, 3, BIG, BIG, BIG);
            staged(x, 4, 3, BIG, BIG, 1);
            x.give(5);
            x.limit(made);
            due("load(0)", x.load(0), made < 3 ? DOWN : 3);
            due("writes()", x.writes(), 3 + Math.min(made, 3));
            due("first block", x.octet(3, 0), made > 0 ? 83 : 0);
            due("second block", x.octet(4, 5), made > 1 ? 6 : 0);
            dueBytes(x, 0, 0, made < 3 ? 1 : 2, 0, 2, 1, 0, made < 3 ? 0 : 3, made < 3 ? 0 : 2, 0);
            due("what was read", x.number(1), made < 3 ? 0 : 5);
            due("restart()", x.restart(), made < 3);
            due("records(0)", x.records(0), made < 3 ? 1 : 3);
            due("files(0)", x.files(0), made < 3 ? 1 : 2);
            due("the row at hand", x.give(6), made < 3 ? 1 : 2);
            due("nothing is staged", x.load(0), NONE);
            x.drop();
            staged(x, 4, 0);
            due("the next", x.load(0), made < 3 ? 2 : DOWN);
            due("its block", x.octet(0, 5), 3);
        }
    }

    private static void filePlaces() {
        begin("promise 11, the least free blocks");
        SchemaTables x = plain();
        x.register(0, 2);
        x.register(1, 2);
        stageTens(x, 10);
        due("A, blocks 2 and 3", x.load(0), 10);
        due("B, block 4", loaded(x, 1, 2, 1), 1);
        due("C, block 5", loaded(x, 0, 2, 2), 11);
        due("A and C, blocks 6 and 7", x.compact(0), 1);
        dueBytes(x, 0, 0, 2, 0, 6, 2, 1, 4, 1, 0, 0, 0);
        due("the blocks of A have its bytes", x.octet(2, 0), 83);
        stageTens(x, 10);
        due("2 and 3", x.load(1), 11);
        stageTens(x, 10);
        due("8 and 9, as 5 is alone", x.load(1), 21);
        due("5", loaded(x, 1, 2, 3), 22);
        due("10", loaded(x, 1, 2, 4), 23);
        dueBytes(x, 0, 0, 6, 0, 6, 2, 1, 4, 1, 1, 2, 2, 1, 8, 2, 1, 5, 1, 1, 10, 1, 0);
        due("a file that is not committed", x.limit(1), 0);
        due("in 11", loaded(x, 0, 2, 4), DOWN);
        x.restart();
        due("again in 11", loaded(x, 0, 2, 5), 12);
        dueBytes(x, 0, 19, 0, 11, 1, 0);
        dueBytes(x, 11, 0, 83, 2, 1, 0, 1, 10);
        x = plain();
        x.register(0, 2);
        stageTens(x, 10);
        due("two blocks", x.load(0), 10);
        stageTens(x, 10);
        due("two blocks", x.load(0), 20);
        x.compact(0);
        due("one block", loaded(x, 0, 2, 5), 21);
        due("zeros to the end of its block", x.octet(2, 7), 0);
        due("zeros to the end of its block", x.octet(2, 31), 0);
    }

    /** Stages INTs of five bytes each. */
    private static void stageTens(SchemaTables x, int count) {
        for (int i = 0; i < count; i++) {
            due("five bytes", staged(x, 2, Integer.MAX_VALUE - i), 5);
        }
    }

    private static void compact() {
        begin("promise 12, compact");
        SchemaTables x = plain();
        x.register(0, 2);
        x.register(1, 2);
        due("no file", x.compact(0), 0);
        loaded(x, 0, 2, 1);
        due("one file", x.compact(0), 0);
        loaded(x, 1, 2, 2);
        staged(x, 2, 3);
        loaded(x, 0, 2, 4);
        loaded(x, 1, 2, 5);
        loaded(x, 0, 2, 6);
        due("subject below", x.compact(-1), NONE);
        due("subject above", x.compact(3), NONE);
        due("a subject without files", x.compact(2), 0);
        staged(x, 2, 8);
        x.give(9);
        x.read(1, 1, 2);
        due("writes()", x.writes(), 12);
        due("compact(0)", x.compact(0), 1);
        due("writes()", x.writes(), 14);
        dueNumbers(x, 5);
        dueBytes(x, 0, 0, 4, 0, 7, 1, 1, 3, 1, 1, 5, 1, 0, 6, 1, 0, 0, 0);
        dueBytes(x, 7, 0, 83, 2, 3, 0, 3, 2, 6, 8, (83 + 2 + 3 + 3 + 2 + 6 + 8) % 251, 0);
        due("files(0)", x.files(0), 2);
        due("records(0)", x.records(0), 4);
        dueRecord(x, 0, 0, 2, 1);
        dueRecord(x, 0, 1, 2, 3);
        dueRecord(x, 0, 2, 2, 4);
        dueRecord(x, 0, 3, 2, 6);
        due("compact(1)", x.compact(1), 1);
        dueBytes(x, 0, 0, 3, 0, 7, 1, 1, 2, 1, 0, 6, 1, 0, 0, 0);
        dueBytes(x, 2, 0, 83, 2, 2, 0, 2, 4, 10);
        due("what is staged stays, and the row", x.stage(2), 1);
        due("load(0)", x.load(0), 6);
    }

    private static void compactPairs() {
        begin("promise 12, pairs");
        SchemaTables x = plain();
        x.register(0, 2);
        x.register(0, 3);
        loaded(x, 0, 2, 1);
        loaded(x, 0, 3, 2);
        loaded(x, 0, 2, 3);
        due("each next one has another schema", x.compact(0), 0);
        loaded(x, 0, 3, 4);
        loaded(x, 0, 3, 5);
        loaded(x, 0, 3, 6);
        due("compact(0)", x.compact(0), 1);
        dueBytes(x, 0, 0, 5, 0, 2, 1, 0, 3, 1, 0, 4, 1, 0, 8, 1, 0, 7, 1, 0);
        for (int k = 0; k < 6; k++) {
            dueRecord(x, 0, k, 3, k + 1);
        }
        due("compact(0)", x.compact(0), 1);
        dueBytes(x, 0, 0, 4, 0, 2, 1, 0, 3, 1, 0, 4, 1, 0, 5, 1, 0);
        due("no pair", x.compact(0), 0);
        x = plain();
        x.register(0, 2);
        for (int i = 0; i < 4; i++) {
            for (int k = 0; k < 10; k++) {
                staged(x, 2, i);
            }
            x.load(0);
        }
        due("10 and 10", x.compact(0), 1);
        dueBytes(x, 0, 0, 3, 0, 6, 1, 0, 4, 1, 0, 5, 1, 0);
        due("20 and 10 are too many, 10 and 10 are not", x.compact(0), 1);
        dueBytes(x, 0, 0, 2, 0, 6, 1, 0, 2, 1, 0, 0, 0);
        due("20 and 20", x.compact(0), 0);
        dueRecord(x, 0, 19, 2, 1);
        dueRecord(x, 0, 20, 2, 2);
        dueRecord(x, 0, 39, 2, 3);
        due("read(0, 40, 2)", x.read(0, 40, 2), NONE);
    }

    private static void compactBounds() {
        begin("promise 12, bounds");
        SchemaTables x = plain();
        x.register(0, 2);
        stageSmall(x, 10);
        x.load(0);
        stageSmall(x, 10);
        x.load(0);
        due("20 records", x.compact(0), 1);
        loaded(x, 0, 2, 1);
        due("21 records", x.compact(0), 0);
        x = longs();
        stageLongs(x, 100);
        x.load(0);
        stageLongs(x, 100);
        x.load(0);
        due("200 bytes", x.compact(0), 1);
        dueBytes(x, 0, 0, 1, 0, 10, 7, 0, 0, 0);
        dueBytes(x, 10, 0, 83, 4, 10, 0, 200);
        int longs = 18 * (254 + 8 * 255 + 1);
        dueBytes(x, 10, 204, 0, (83 + 4 + 10 + 200 + 8 * 4 + 2 * 2 + longs) % 251, 0, 0);
        x = longs();
        stageLongs(x, 100);
        x.load(0);
        stageLongs(x, 100);
        staged(x, 4, 0);
        x.load(0);
        due("201 bytes", x.compact(0), 0);
        due("nothing was written", x.writes(), 1 + 5 + 5);
    }

    private static void stageSmall(SchemaTables x, int count) {
        for (int i = 0; i < count; i++) {
            staged(x, 2, i);
        }
    }

    /** Stages ARRAYs of LONG with so many bytes in all, 100 or 150, in five records. */
    private static void stageLongs(SchemaTables x, int bytes) {
        int sum = 0;
        for (int i = 0; i < 4; i++) {
            sum += bytes == 150 ? staged(x, 4, 3, BIG, BIG, BIG) : staged(x, 4, 2, BIG, BIG);
        }
        sum += bytes == 150 ? staged(x, 4, 2, BIG, BIG) : staged(x, 4, 1, BIG);
        due("the bytes that are staged", sum, bytes);
    }

    private static void compactFull() {
        begin("promise 12, full");
        SchemaTables x = longs();
        x.register(1, 4);
        stageLongs(x, 100);
        x.load(0);
        stageLongs(x, 100);
        x.load(0);
        for (int i = 0; i < 6; i++) {
            stageLongs(x, 150);
            due("load(1)", x.load(1), 5 * i + 5);
        }
        int before = x.writes();
        due("compact(0)", x.compact(0), FULL);
        due("compact(1), which has no pair", x.compact(1), 0);
        due("compact(3)", x.compact(3), NONE);
        due("writes()", x.writes(), before);
        due("files(0)", x.files(0), 2);
        due("records(0)", x.records(0), 10);
        x.limit(0);
        due("FULL goes before the write", x.compact(0), FULL);
    }

    private static void compactStopsAtAnyWrite() {
        for (int made = 0; made <= 4; made++) {
            begin("promise 12, compact after which only " + made + " writes are made");
            SchemaTables x = plain();
            x.register(0, 2);
            loaded(x, 0, 2, 1);
            stageTens(x, 10);
            x.load(0);
            staged(x, 2, 3);
            x.give(4);
            x.read(0, 0, 2);
            x.limit(made);
            due("compact(0)", x.compact(0), made < 3 ? DOWN : 1);
            due("writes()", x.writes(), 6 + Math.min(made, 3));
            due("first block", x.octet(5, 0), made > 0 ? 83 : 0);
            due("second block", x.octet(6, 0), made > 1 ? 255 : 0);
            due("files on the disk", x.octet(0, 0), made < 3 ? 2 : 1);
            due("what was read", x.number(0), made < 3 ? 0 : 1);
            if (made < 3) {
                due("compact(0) while down", x.compact(0), DOWN);
                due("compact(-1) while down", x.compact(-1), DOWN);
            }
            due("restart()", x.restart(), made < 3);
            due("files(0)", x.files(0), made < 3 ? 2 : 1);
            due("records(0)", x.records(0), 11);
            dueRecord(x, 0, 0, 2, 1);
            dueRecord(x, 0, 1, 2, Integer.MAX_VALUE);
            dueRecord(x, 0, 10, 2, Integer.MAX_VALUE - 9);
            due("the row at hand", x.give(5), made < 3 ? 1 : 2);
        }
    }

    private static void readRefuses() {
        begin("promise 13, read refuses");
        SchemaTables x = plain();
        x.register(0, 2);
        x.register(1, 2);
        x.register(1, 3);
        loaded(x, 0, 2, 5);
        loaded(x, 0, 2, 6);
        dueRecord(x, 0, 1, 2, 6);
        due("subject below", x.read(-1, 0, 2), NONE);
        dueNumbers(x);
        dueRecord(x, 0, 0, 2, 5);
        due("subject above", x.read(3, 0, 2), NONE);
        dueNumbers(x);
        due("schema below", x.read(0, 0, -1), NONE);
        due("schema above", x.read(0, 0, 4), NONE);
        due("schema of another subject", x.read(0, 0, 3), NONE);
        due("record below", x.read(0, -1, 2), NONE);
        due("record far below", x.read(0, Integer.MIN_VALUE, 2), NONE);
        due("record above", x.read(0, 2, 2), NONE);
        due("record far above", x.read(0, Integer.MAX_VALUE, 2), NONE);
        due("no records", x.read(1, 0, 2), NONE);
        dueRecord(x, 0, 0, 2, 5);
        goDown(x);
        due("while down", x.read(0, 0, 2), DOWN);
        due("DOWN first", x.read(-1, 0, 2), DOWN);
        x.restart();
        dueNumbers(x);
        dueRecord(x, 0, 0, 2, 5);
    }

    private static void readResolves() {
        begin("promise 13, read: plain kinds, ENUM, ARRAY");
        SchemaTables x = plain();
        x.register(0, 2);
        x.register(0, 3);
        loaded(x, 0, 2, Integer.MIN_VALUE);
        loaded(x, 0, 3, Long.MIN_VALUE);
        loaded(x, 0, 3, 1);
        dueRecord(x, 0, 0, 2, Integer.MIN_VALUE);
        dueRecord(x, 0, 0, 3, Integer.MIN_VALUE);
        dueRecord(x, 0, 1, 3, Long.MIN_VALUE);
        due("a LONG is no INT", x.read(0, 1, 2), FAULT);
        due("even if it is small", x.read(0, 2, 2), FAULT);
        dueNumbers(x);
        long[] numbers = {63, 64, -64, -65, 127, 128, 8191, 8192, 1L << 34, -1L << 62, BIG};
        for (int i = 0; i < numbers.length; i++) {
            x = plain();
            x.register(0, 3);
            staged(x, 3, numbers[i]);
            staged(x, 3, -numbers[i]);
            x.load(0);
            dueRecord(x, 0, 0, 3, numbers[i]);
            dueRecord(x, 0, 1, 3, -numbers[i]);
        }
        x = plain();
        x.register(0, 0);
        x.register(1, 1);
        loaded(x, 0, 0);
        staged(x, 1, 1);
        staged(x, 1, 0);
        x.load(1);
        dueRecord(x, 0, 0, 0);
        dueRecord(x, 1, 0, 1, 1);
        dueRecord(x, 1, 1, 1, 0);
        x = plain();
        due("ENUM 4", x.make(ENUM, 1, 0b0110, NONE), 4);
        due("ENUM 5", x.make(ENUM, 1, 0b0010, 1), 5);
        due("ENUM 6", x.make(ENUM, 1, 0b10000111, NONE), 6);
        x.register(0, 4);
        x.register(0, 5);
        due("register(0, 6)", x.register(0, 6), 2);
        for (int symbol : new int[] {0, 1, 2, 7}) {
            staged(x, 6, symbol);
        }
        x.load(0);
        dueRecord(x, 0, 0, 6, 0);
        dueRecord(x, 0, 3, 6, 7);
        due("no such symbol", x.read(0, 0, 4), FAULT);
        dueRecord(x, 0, 1, 4, 1);
        dueRecord(x, 0, 2, 4, 2);
        due("no such symbol", x.read(0, 3, 4), FAULT);
        dueRecord(x, 0, 1, 5, 1);
        dueRecord(x, 0, 2, 5, 1);
        dueRecord(x, 0, 3, 5, 1);
        x = plain();
        x.make(ARRAY, 0, 2, 0);
        x.make(ARRAY, 0, 3, 0);
        x.register(0, 4);
        x.register(0, 5);
        staged(x, 4, 3, 1, 2, -3);
        staged(x, 4, 0);
        x.load(0);
        staged(x, 5, 0);
        staged(x, 5, 1, 8);
        x.load(0);
        dueRecord(x, 0, 0, 5, 3, 1, 2, -3);
        dueRecord(x, 0, 1, 5, 0);
        dueRecord(x, 0, 2, 4, 0);
        due("an item is a fault", x.read(0, 3, 4), FAULT);
        dueRecord(x, 0, 3, 5, 1, 8);
    }

    private static void readUnions() {
        begin("promise 13, read: UNION");
        SchemaTables x = plain();
        due("LONG or INT", x.make(UNION, 0, 3, 2), 4);
        due("NULL or LONG", x.make(UNION, 0, 0, 3), 5);
        x.register(0, 2);
        x.register(0, 4);
        due("register(0, 5)", x.register(0, 5), 2);
        loaded(x, 0, 2, 7);
        loaded(x, 0, 4, 1, 8);
        staged(x, 5, 0);
        staged(x, 5, 1, 9);
        x.load(0);
        dueRecord(x, 0, 0, 4, 0, 7);
        dueRecord(x, 0, 0, 5, 1, 7);
        dueRecord(x, 0, 1, 4, 0, 8);
        dueRecord(x, 0, 1, 2, 8);
        dueRecord(x, 0, 1, 5, 1, 8);
        dueRecord(x, 0, 2, 5, 0);
        dueRecord(x, 0, 3, 5, 1, 9);
        due("neither matches", x.read(0, 2, 4), FAULT);
        due("NULL is no INT", x.read(0, 2, 2), FAULT);
        dueRecord(x, 0, 3, 4, 0, 9);
        due("LONG is no INT", x.read(0, 3, 2), FAULT);
        x = plain();
        x.make(ENUM, 1, 3, NONE);
        x.make(ENUM, 2, 3, NONE);
        due("5 or 4", x.make(UNION, 0, 5, 4), 6);
        x.register(0, 4);
        x.register(0, 6);
        staged(x, 6, 0, 1);
        staged(x, 6, 1, 0);
        x.load(0);
        loaded(x, 0, 4, 1);
        due("another name", x.read(0, 0, 4), FAULT);
        dueRecord(x, 0, 1, 4, 0);
        dueRecord(x, 0, 2, 6, 1, 1);
        x = plain();
        due("ARRAY of BOOLEAN", x.make(ARRAY, 0, 1, 0), 4);
        due("4 or INT", x.make(UNION, 0, 4, 2), 5);
        due("BOOLEAN or INT", x.make(UNION, 0, 1, 2), 6);
        due("ARRAY of 6", x.make(ARRAY, 0, 6, 0), 7);
        due("LONG or 7", x.make(UNION, 0, 3, 7), 8);
        x.register(0, 5);
        due("register(0, 8)", x.register(0, 8), 1);
        staged(x, 8, 1, 2, 0, 1, 0, 0);
        staged(x, 8, 1, 2, 0, 1, 1, 7);
        staged(x, 8, 1, 0);
        staged(x, 8, 0, 4);
        x.load(0);
        staged(x, 5, 0, 1, 1);
        x.load(0);
        dueRecord(x, 0, 0, 5, 0, 2, 1, 0);
        due("an item is no BOOLEAN", x.read(0, 1, 5), FAULT);
        dueRecord(x, 0, 2, 5, 0, 0);
        due("a LONG is no INT", x.read(0, 3, 5), FAULT);
        dueRecord(x, 0, 1, 8, 1, 2, 0, 1, 1, 7);
        dueRecord(x, 0, 4, 8, 1, 1, 0, 1);
    }

    private static void readRecords() {
        begin("promise 13, read: RECORD");
        SchemaTables x = plain();
        due("ARRAY of INT", x.make(ARRAY, 0, 2, 0), 4);
        due("NULL or 4", x.make(UNION, 0, 0, 4), 5);
        due("ARRAY of LONG", x.make(ARRAY, 0, 3, 0), 6);
        x.field(1, 5, false, 0);
        x.field(2, 0, false, 0);
        x.field(3, 4, false, 0);
        due("the inner one", x.make(RECORD, 2, 0, 0), 7);
        x.field(4, 7, false, 0);
        x.field(5, 6, false, 0);
        x.field(6, 2, false, 0);
        due("the writer's", x.make(RECORD, 1, 0, 0), 8);
        x.field(6, 3, false, 0);
        x.field(0, 1, true, 1);
        x.field(5, 6, false, 0);
        due("the reader's", x.make(RECORD, 1, 0, 0), 9);
        x.register(0, 8);
        due("register(0, 9)", x.register(0, 9), 1);
        due("stage", staged(x, 8, 1, 2, 7, 8, 1, 9, 2, 10, 11, 12) > 0, true);
        due("stage", staged(x, 8, 0, 0, 0, 13) > 0, true);
        x.load(0);
        staged(x, 9, 1, 0, 0);
        x.load(0);
        dueRecord(x, 0, 0, 9, 12, 1, 2, 10, 11);
        dueRecord(x, 0, 1, 9, 13, 1, 0);
        dueRecord(x, 0, 0, 8, 1, 2, 7, 8, 1, 9, 2, 10, 11, 12);
        dueRecord(x, 0, 1, 8, 0, 0, 0, 13);
        due("no such field, no default", x.read(0, 2, 8), FAULT);
        x = plain();
        due("4: no fields", x.make(RECORD, 1, 0, 0), 4);
        due("5: no fields, another name", x.make(RECORD, 2, 0, 0), 5);
        due("6: 5 or 4", x.make(UNION, 0, 5, 4), 6);
        x.register(0, 4);
        x.register(0, 6);
        staged(x, 6, 0);
        staged(x, 6, 1);
        x.load(0);
        due("another name", x.read(0, 0, 4), FAULT);
        dueRecord(x, 0, 1, 4);
        dueRecord(x, 0, 1, 6, 1);
        x = plain();
        x.field(0, 2, false, 0);
        due("4: INT a", x.make(RECORD, 1, 0, 0), 4);
        x.field(1, 3, true, 5);
        x.field(0, 3, false, 0);
        due("5: LONG b = 5, LONG a", x.make(RECORD, 1, 0, 0), 5);
        x.register(0, 4);
        x.register(0, 5);
        loaded(x, 0, 4, 3);
        loaded(x, 0, 5, 6, 7);
        dueRecord(x, 0, 0, 5, 5, 3);
        dueRecord(x, 0, 1, 5, 6, 7);
        due("a field is a fault", x.read(0, 1, 4), FAULT);
    }

    /** The numbers that a default is read as: the reader's record has just that field, the writer's has none. */
    private static void dueDefault(int[] makes, long value, long... numbers) {
        SchemaTables x = plain();
        int last = 0;
        for (int i = 0; i < makes.length; i += 4) {
            last = x.make(makes[i], makes[i + 1], makes[i + 2], makes[i + 3]);
        }
        int writer = x.make(RECORD, 5, 0, 0);
        due("field", x.field(7, last, true, value), 1);
        int reader = x.make(RECORD, 5, 0, 0);
        due("register", x.register(2, writer), 0);
        due("register", x.register(2, reader), 1);
        due("load", loaded(x, 2, writer), 1);
        dueRecord(x, 2, 0, reader, numbers);
    }

    private static void readDefaults() {
        begin("promise 13, read: defaults");
        dueDefault(new int[] {NULL, 0, 0, 0}, 0);
        dueDefault(new int[] {BOOLEAN, 0, 0, 0}, 1, 1);
        dueDefault(new int[] {INT, 0, 0, 0}, -9, -9);
        dueDefault(new int[] {LONG, 0, 0, 0}, BIG, BIG);
        dueDefault(new int[] {ENUM, 0, 0b110, 2}, 1, 1);
        dueDefault(new int[] {ARRAY, 0, 3, 0}, 0, 0);
        dueDefault(new int[] {UNION, 0, 0, 3}, 0, 0);
        dueDefault(new int[] {UNION, 0, 3, 0}, 6, 0, 6);
        dueDefault(new int[] {ARRAY, 0, 3, 0, UNION, 0, 4, 0}, 0, 0, 0);
        dueDefault(new int[] {ENUM, 0, 0b110, 2, UNION, 0, 4, 0}, 1, 0, 1);
    }

    private static void readFull() {
        begin("promise 13, read: full");
        SchemaTables x = plain();
        due("4: no fields", x.make(RECORD, 0, 0, 0), 4);
        due("5", x.make(ARRAY, 0, 4, 0), 5);
        due("6: the writer's", x.make(ARRAY, 0, 5, 0), 6);
        due("7: INT or NULL", x.make(UNION, 0, 2, 0), 7);
        x.field(0, 7, true, 5);
        x.field(1, 3, true, 6);
        x.field(2, 1, true, 1);
        due("8: three fields, four numbers", x.make(RECORD, 0, 0, 0), 8);
        due("9", x.make(ARRAY, 0, 8, 0), 9);
        due("10: the reader's", x.make(ARRAY, 0, 9, 0), 10);
        x.field(0, 6, false, 0);
        due("11: RECORD of 6", x.make(RECORD, 0, 0, 0), 11);
        x.field(0, 10, false, 0);
        x.field(1, 2, true, 3);
        due("12: RECORD of 10, INT = 3", x.make(RECORD, 0, 0, 0), 12);
        x.field(0, 10, false, 0);
        x.field(1, 2, false, 0);
        due("13: RECORD of 10, INT", x.make(RECORD, 0, 0, 0), 13);
        x.register(0, 6);
        due("register(0, 10)", x.register(0, 10), 1);
        x.register(1, 11);
        due("register(1, 12)", x.register(1, 12), 1);
        x.register(2, 13);
        due("register(2, 11)", x.register(2, 11), 1);
        loaded(x, 0, 6, 3, 3, 3, 3);
        loaded(x, 1, 11, 3, 3, 3, 3);
        loaded(x, 1, 11, 3, 3, 3, 2);
        loaded(x, 2, 11, 3, 3, 3, 3);
        due("40 numbers", x.read(0, 0, 10), 40);
        due("number(2)", x.number(2), 0);
        due("number(3)", x.number(3), 5);
        due("number(4)", x.number(4), 6);
        due("number(39)", x.number(39), 1);
        due("41 numbers", x.read(1, 0, 12), FULL);
        dueNumbers(x);
        due("number(39)", x.number(39), 0);
        due("37 numbers", x.read(1, 1, 12), 37);
        due("number(36)", x.number(36), 3);
        due("40 numbers, then a fault", x.read(2, 0, 13), FAULT);
        dueNumbers(x);
        readFullOrFault();
    }

    /** FAULT is named before FULL, so that it is the answer where a value is both. */
    private static void readFullOrFault() {
        SchemaTables x = plain();
        x.make(UNION, 0, 2, 0);
        due("5: no fields", x.make(RECORD, 0, 0, 0), 5);
        due("6", x.make(ARRAY, 0, 5, 0), 6);
        due("7", x.make(ARRAY, 0, 6, 0), 7);
        x.field(0, 7, false, 0);
        due("8: the writer's", x.make(RECORD, 0, 0, 0), 8);
        x.field(0, 4, true, 5);
        x.field(1, 4, true, 6);
        x.field(2, 4, true, 7);
        due("9: six numbers", x.make(RECORD, 0, 0, 0), 9);
        due("10", x.make(ARRAY, 0, 9, 0), 10);
        due("11", x.make(ARRAY, 0, 10, 0), 11);
        x.field(0, 11, false, 0);
        x.field(1, 2, false, 0);
        due("12: the reader's", x.make(RECORD, 0, 0, 0), 12);
        x.register(0, 12);
        due("register(0, 8)", x.register(0, 8), 1);
        loaded(x, 0, 8, 3, 3, 3, 3);
        due("58 numbers, then a fault", x.read(0, 0, 12), FAULT);
    }

    private static void number() {
        begin("promise 14, number");
        SchemaTables x = plain();
        x.make(ARRAY, 0, 3, 0);
        x.register(0, 4);
        loaded(x, 0, 4, 3, 10, 20, 30);
        loaded(x, 0, 4, 1, 40);
        due("before any read", x.number(0), 0);
        dueRecord(x, 0, 0, 4, 3, 10, 20, 30);
        due("number(-1)", x.number(-1), 0);
        due("number(40)", x.number(40), 0);
        due("number(MIN)", x.number(Integer.MIN_VALUE), 0);
        due("number(MAX)", x.number(Integer.MAX_VALUE), 0);
        dueRecord(x, 0, 1, 4, 1, 40);
        due("of the one before", x.number(2), 0);
        x.give(5);
        x.stage(4);
        x.drop();
        x.compact(0);
        x.limit(9);
        x.limit(-1);
        x.restart();
        x.register(1, 4);
        x.load(1);
        dueNumbers(x, 1, 40);
        due("read of none", x.read(0, 2, 4), NONE);
        dueNumbers(x);
        dueRecord(x, 0, 1, 4, 1, 40);
        goDown(x);
        dueNumbers(x);
        x.restart();
        dueNumbers(x);
    }

    private static void recordsAndFiles() {
        begin("promises 15 and 16, records and files");
        SchemaTables x = plain();
        x.register(0, 2);
        x.register(2, 2);
        stageSmall(x, 10);
        x.load(2);
        stageSmall(x, 3);
        x.load(0);
        stageSmall(x, 4);
        x.load(2);
        int[] records = {3, 0, 14};
        int[] files = {1, 0, 2};
        for (int subject = 0; subject < 3; subject++) {
            due("records", x.records(subject), records[subject]);
            due("files", x.files(subject), files[subject]);
        }
        due("records(-1)", x.records(-1), NONE);
        due("records(3)", x.records(3), NONE);
        due("files(-1)", x.files(-1), NONE);
        due("files(3)", x.files(3), NONE);
        goDown(x);
        due("records while down", x.records(2), NONE);
        due("files while down", x.files(2), NONE);
        x.restart();
        due("records(2)", x.records(2), 14);
        due("files(2)", x.files(2), 2);
        x.compact(2);
        due("records(2)", x.records(2), 14);
        due("files(2)", x.files(2), 1);
    }

    private static void octet() {
        begin("promise 17, octet");
        SchemaTables x = longs();
        due("octet(-1, 0)", x.octet(-1, 0), NONE);
        due("octet(40, 0)", x.octet(40, 0), NONE);
        due("octet(0, -1)", x.octet(0, -1), NONE);
        due("octet(0, 32)", x.octet(0, 32), NONE);
        due("octet(1, -1)", x.octet(1, -1), NONE);
        due("octet(MAX, MAX)", x.octet(Integer.MAX_VALUE, Integer.MAX_VALUE), NONE);
        due("octet(MIN, 0)", x.octet(Integer.MIN_VALUE, 0), NONE);
        due("octet(1 << 27, 0)", x.octet(1 << 27, 0), NONE);
        due("octet(39, 31)", x.octet(39, 31), 0);
        loaded(x, 0, 4, 1, -1 - 64);
        due("a byte above 127", x.octet(2, 6), 129);
        goDown(x);
        due("while down", x.octet(2, 6), 129);
        due("none while down", x.octet(40, 0), NONE);
    }

    private static void limit() {
        begin("promise 18, limit");
        SchemaTables x = plain();
        due("limit(-1)", x.limit(-1), NONE);
        due("limit(MIN)", x.limit(Integer.MIN_VALUE), NONE);
        due("no limit was set", x.register(0, 2), 0);
        due("limit(0)", x.limit(0), 0);
        due("in its place", x.limit(2), 0);
        due("refused", x.limit(-1), NONE);
        due("one", x.register(0, 3), 1);
        due("two", x.register(1, 2), 0);
        due("up yet", x.versions(1), 1);
        due("staged", staged(x, 2, 5), 1);
        due("the third is not made", x.load(1), DOWN);
        due("while down", x.limit(5), DOWN);
        due("DOWN first", x.limit(-1), DOWN);
        due("restart()", x.restart(), true);
        due("without a limit", x.register(2, 2), 0);
        due("without a limit", loaded(x, 2, 2, 6), 1);
        due("the most", x.limit(Integer.MAX_VALUE), 0);
        due("a write", x.register(2, 3), 1);
        due("limit(1)", x.limit(1), 0);
        due("what is refused makes no write", x.register(2, 3), NONE);
        due("what is refused makes no write", x.compact(2), 0);
        due("limit(1), used up by the file", loaded(x, 2, 2, 7), DOWN);
    }

    private static void restart() {
        begin("promise 19, restart");
        SchemaTables x = plain();
        x.register(0, 2);
        loaded(x, 0, 2, 5);
        x.limit(0);
        due("up", x.restart(), false);
        staged(x, 2, 5);
        x.give(6);
        due("the limit stays when it is up", x.load(0), DOWN);
        due("down", x.restart(), true);
        due("up again", x.restart(), false);
        due("versions(0)", x.versions(0), 1);
        due("records(0)", x.records(0), 1);
        due("schemas stay", x.canRead(3, 2), true);
        due("schemas stay", x.make(NULL, 0, 0, 0), 4);
        due("the row is empty", x.give(1), 1);
        due("no limit", x.register(1, 2), 0);
        dueRecord(x, 0, 0, 2, 5);
        x.give(2);
        due("up", x.restart(), false);
        due("nothing is lost by it", x.give(3), 3);
        dueNumbers(x, 5);
    }

    private static void writes() {
        begin("promise 20, writes");
        SchemaTables x = plain();
        x.register(0, 2);
        due("register", x.writes(), 1);
        x.register(0, 2);
        due("refused", x.writes(), 1);
        stageTens(x, 10);
        x.load(0);
        due("two blocks and the manifest", x.writes(), 4);
        loaded(x, 0, 2, 1);
        due("one block and the manifest", x.writes(), 6);
        x.limit(1);
        x.compact(0);
        due("one of three", x.writes(), 7);
        due("restart()", x.restart(), true);
        due("restart changes nothing", x.writes(), 7);
        x.compact(0);
        due("two blocks and the manifest", x.writes(), 10);
        x.compact(0);
        due("no pair", x.writes(), 10);
        x.read(0, 0, 2);
        due("read", x.writes(), 10);
    }
}
