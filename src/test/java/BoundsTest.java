/**
 * The sentences of the document's promises 1 to 20: for each that names a boundary, a test of its own, with what lies
 * inside the boundary, at it, and outside it.
 */
public final class BoundsTest extends Cases {
    public static void main(String[] args) {
        objectIsUsedFor512Calls();
        newObjectHasNothing();
        fieldAnswersHowMany();
        fieldNeedsASchema();
        fieldLooksAtTheDefaultOnlyIfThereIsOne();
        fieldsWaitForTheNextRecord();
        makeTakesTheFieldsOnce();
        makeLooksAtNothingElse();
        makeNeedsTheSchemasItNames();
        makeRefusesBranches();
        canReadNeedsBothSchemas();
        registerNeedsASchema();
        registerTakesTenInAll();
        registerTakesEachOnce();
        registerReadsAllEarlierOnes();
        registerMakesOneWrite();
        versionsCountFrom0();
        giveTakes24();
        stageNeedsASchema();
        stageTakesOneSchemaAtATime();
        stageTakesTenRecords();
        stageTakes150Bytes();
        stageEmptiesTheRow();
        dropEmptiesBoth();
        loadAnswersTheRecordsOfTheSubject();
        loadNeedsWhatIsStagedAndRegistered();
        loadTakesNineFiles();
        compactJoinsUpTo20Records();
        compactJoinsUpTo200Bytes();
        compactTakesTheFirstPair();
        compactNeedsTheSameSchema();
        compactNeedsFreeBlocks();
        compactPutsItInPlaceOfTheFirst();
        readNeedsARegisteredSchema();
        readNeedsARecord();
        readGivesUpTo40Numbers();
        numberIsOfTheLatestRead();
        recordsAndFilesAreCounted();
        limitIsNotBelow0();
        limitTakesThePlaceOfAnother();
        restartOnlyWhenDown();
        writesAreCountedInAll();
        CHECK.end();
    }

    private static void objectIsUsedFor512Calls() {
        begin("An object is used for at most 512 calls");
        SchemaTables x = new SchemaTables();
        due("make", x.make(LONG, 0, 0, 0), 0);
        due("register", x.register(0, 0), 0);
        for (int i = 0; i < 250; i++) {
            due("give", x.give(i), i % 10 + 1);
            due("drop or octet", i % 10 == 9 ? x.drop() : x.octet(1, 0), i % 10 == 9 ? 0 : 1);
        }
        for (int i = 0; i < 3; i++) {
            due("give", x.give(BIG - i), 1);
            due("stage", x.stage(0), 10);
        }
        due("load", x.load(0), 3);
        due("compact", x.compact(0), 0);
        due("the 511th", x.read(0, 2, 0), 1);
        due("the 512th", x.number(0), BIG - 2);
    }

    private static void newObjectHasNothing() {
        begin("1: No schemas, an empty disk, no limit, up");
        SchemaTables x = new SchemaTables();
        due("up", x.restart(), false);
        due("no schemas", x.field(0, 0, false, 0), NONE);
        due("no schemas", x.make(ARRAY, 0, 0, 0), NONE);
        due("no schemas", x.canRead(0, 0), false);
        due("no schemas", x.register(0, 0), NONE);
        due("no schemas", x.stage(0), NONE);
        due("no writes", x.writes(), 0);
        due("nothing read", x.number(0), 0);
        due("no fields", x.make(RECORD, 0, 0, 0), 0);
        due("an empty row", x.stage(0), 0);
        due("nothing else was staged", x.drop(), 0);
        due("no versions", x.versions(0), 0);
        due("no limit", x.register(0, 0), 0);
        dueBlock(x, 0);
        dueBlock(x, 1, 1);
        due("two objects have nothing in common", new SchemaTables().canRead(0, 0), false);
    }

    private static void fieldAnswersHowMany() {
        begin("2: Answers how many there are. NONE when there are three");
        SchemaTables x = plain();
        for (int record = 0; record < 3; record++) {
            for (int i = 1; i <= 3; i++) {
                due("field", x.field(2 * i, LONG, i == 2, -4), i);
            }
            due("the fourth", x.field(1, LONG, false, 0), NONE);
            due("the fourth", x.field(7, LONG, true, 0), NONE);
            due("make", x.make(RECORD, 0, 0, 0), 4 + record);
        }
    }

    private static void fieldNeedsASchema() {
        begin("2: NONE when there is no such schema");
        for (int made = 0; made <= 24; made++) {
            SchemaTables x = new SchemaTables();
            for (int i = 0; i < made; i++) {
                x.make(INT, 0, 0, 0);
            }
            for (int schema : new int[] {-1, made, made + 1, 24, 25, LEAST, MOST}) {
                due("schema " + schema + " of " + made, x.field(0, schema, false, 0), NONE);
            }
            if (made > 0) {
                due("the last one", x.field(0, made - 1, false, 0), 1);
                due("the first one", x.field(1, 0, false, 0), 2);
            }
        }
    }

    private static void fieldLooksAtTheDefaultOnlyIfThereIsOne() {
        begin("2: whether it has a default, and which (else value is not looked at)");
        for (long value : new long[] {-1, 2, WRAPS, BIG, Long.MIN_VALUE}) {
            SchemaTables x = plain();
            x.make(RECORD, 0, 0, 0);
            due("a BOOLEAN with it", x.field(0, BOOLEAN, true, value), NONE);
            due("a BOOLEAN without", x.field(0, BOOLEAN, false, value), 1);
            due("a RECORD without", x.field(1, 4, false, value), 2);
            due("a NULL without", x.field(2, NULL, false, value), 3);
            due("make", x.make(RECORD, 0, 0, 0), 5);
            due("it has no default", x.canRead(5, 4), false);
        }
    }

    private static void fieldsWaitForTheNextRecord() {
        begin("2: of the record that is made next (whatever else is made, refused or lost till then)");
        SchemaTables x = plain();
        x.field(0, BOOLEAN, false, 0);
        for (int kind = NULL; kind < RECORD; kind++) {
            due("made", x.make(kind, 0, 1, 0), 4 + kind);
        }
        due("refused: a name", x.make(RECORD, 8, 0, 0), NONE);
        due("refused: a name", x.make(RECORD, -1, 0, 0), NONE);
        due("refused: a kind", x.make(8, 0, 0, 0), NONE);
        due("refused: a field", x.field(0, INT, false, 0), NONE);
        goDown(x);
        x.restart();
        x.drop();
        due("the second", x.field(1, INT, false, 0), 2);
        due("make", x.make(RECORD, 0, 0, 0), 11);
        due("its value", staged(x, 11, 1, 64), 3);
    }

    private static void makeTakesTheFieldsOnce() {
        begin("3: it gets the fields that were given for it, in their order, perhaps none (none for the next one then)");
        SchemaTables x = plain();
        for (int count = 0; count <= 3; count++) {
            for (int i = 0; i < count; i++) {
                x.field(i, LONG - i, false, 0);
            }
            due("with " + count, x.make(RECORD, 0, 0, 0), 4 + 2 * count);
            due("the next one", x.make(RECORD, 0, 0, 0), 5 + 2 * count);
        }
        long[][] values = {{}, {BIG}, {BIG, MOST}, {BIG, MOST, 1}};
        for (int count = 0; count <= 3; count++) {
            due("a value of " + count, staged(x, 4 + 2 * count, values[count]) >= 0, true);
            x.drop();
            due("a value of none", x.stage(5 + 2 * count), 0);
            x.drop();
        }
    }

    private static void makeLooksAtNothingElse() {
        begin("3: What a kind does not use is not looked at");
        for (int other : new int[] {LEAST, -2, -1, 8, 24, 256, MOST}) {
            SchemaTables x = new SchemaTables();
            for (int kind = NULL; kind <= LONG; kind++) {
                due("kind " + kind, x.make(kind, other, other, other), kind);
            }
            due("ARRAY", x.make(ARRAY, other, 0, other), 4);
            due("UNION", x.make(UNION, other, 0, 1), 5);
            due("RECORD", x.make(RECORD, 7, other, other), 6);
            due("ENUM uses all", x.make(ENUM, other, 1, NONE), NONE);
        }
    }

    private static void makeNeedsTheSchemasItNames() {
        begin("3: NONE when a schema that is named is not there");
        SchemaTables x = plain();
        for (int schema : new int[] {-1, -2, 4, 5, 24, LEAST, MOST}) {
            due("ARRAY of " + schema, x.make(ARRAY, 0, schema, 0), NONE);
            due("branch 0 " + schema, x.make(UNION, 0, schema, 0), NONE);
            due("branch 1 " + schema, x.make(UNION, 0, 0, schema), NONE);
            due("both " + schema, x.make(UNION, 0, schema, schema), NONE);
        }
        due("ARRAY of the last", x.make(ARRAY, 0, 3, 0), 4);
        due("ARRAY of the first", x.make(ARRAY, 0, 0, 0), 5);
        due("UNION of the first and the last", x.make(UNION, 0, 0, 5), 6);
        due("a schema is not there before it is made", x.make(ARRAY, 0, 7, 0), NONE);
    }

    /** Two of each kind but UNION, kind k as 2k and 2k + 1, the last ones of two names; UNION has 12 alone. */
    private static SchemaTables twoOfEach() {
        SchemaTables x = new SchemaTables();
        for (int kind = NULL; kind <= LONG; kind++) {
            x.make(kind, 0, 0, 0);
            x.make(kind, 0, 0, 0);
        }
        x.make(ENUM, 3, 1, NONE);
        x.make(ENUM, 3, 2, NONE);
        x.make(ARRAY, 0, 0, 0);
        x.make(ARRAY, 0, 4, 0);
        x.make(UNION, 0, 0, 2);
        x.make(ENUM, 4, 1, NONE);
        x.make(RECORD, 3, 0, 0);
        x.make(RECORD, 3, 0, 0);
        due("16 schemas", x.make(RECORD, 4, 0, 0), 16);
        return x;
    }

    private static void makeRefusesBranches() {
        begin("3: a branch is a UNION, or both are of the same kind, unless both ENUMs or RECORDs with different names");
        int[] kinds = {0, 0, 1, 1, 2, 2, 3, 3, 4, 4, 5, 5, 6, 4, 7, 7, 7};
        int[] names = {0, 0, 0, 0, 0, 0, 0, 0, 3, 3, 0, 0, 0, 4, 3, 3, 4};
        for (int a = 0; a < kinds.length; a++) {
            for (int b = 0; b < kinds.length; b++) {
                SchemaTables x = twoOfEach();
                boolean named = kinds[a] == ENUM || kinds[a] == RECORD;
                boolean told = kinds[a] != kinds[b] || named && names[a] != names[b];
                boolean good = told && kinds[a] != UNION && kinds[b] != UNION;
                due("UNION of " + a + " and " + b, x.make(UNION, 0, a, b), good ? 17 : NONE);
            }
        }
    }

    private static void canReadNeedsBothSchemas() {
        begin("4: false when there is no such schema");
        SchemaTables x = plain();
        for (int schema : new int[] {-1, 4, 5, 24, LEAST, MOST}) {
            due("reader " + schema, x.canRead(schema, 0), false);
            due("writer " + schema, x.canRead(0, schema), false);
            due("both " + schema, x.canRead(schema, schema), false);
        }
        due("the first", x.canRead(0, 0), true);
        due("the last", x.canRead(3, 3), true);
    }

    private static void registerNeedsASchema() {
        begin("5: NONE when there is no such schema");
        SchemaTables x = plain();
        for (int schema : new int[] {-1, 4, 5, 24, 256, LEAST, MOST}) {
            due("schema " + schema, x.register(0, schema), NONE);
        }
        due("nothing is registered", x.versions(0), 0);
        due("the first", x.register(0, 0), 0);
        due("the last", x.register(1, 3), 0);
    }

    private static void registerTakesTenInAll() {
        begin("5: NONE when there are ten registrations in all");
        for (int ofFirst = 0; ofFirst <= 10; ofFirst++) {
            SchemaTables x = new SchemaTables();
            for (int i = 0; i < 12; i++) {
                x.make(INT, 0, 0, 0);
            }
            for (int i = 0; i < 10; i++) {
                boolean first = i < ofFirst;
                due("register", x.register(first ? 0 : 2, i), first ? i : i - ofFirst);
            }
            due("the eleventh", x.register(0, 10), NONE);
            due("the eleventh", x.register(1, 0), NONE);
            due("the eleventh", x.register(2, 11), NONE);
            due("versions(0)", x.versions(0), ofFirst);
            due("versions(1)", x.versions(1), 0);
            due("versions(2)", x.versions(2), 10 - ofFirst);
            due("writes()", x.writes(), 10);
        }
    }

    private static void registerTakesEachOnce() {
        begin("5: NONE when it is registered there already");
        SchemaTables x = plain();
        due("under 0", x.register(0, INT), 0);
        due("under 0 again", x.register(0, INT), NONE);
        due("under 1", x.register(1, INT), 0);
        due("another under 0", x.register(0, LONG), 1);
        due("the first again, before FAULT", x.register(0, INT), NONE);
        due("the last again", x.register(0, LONG), NONE);
        due("one just like it", x.make(LONG, 0, 0, 0), 4);
        due("one just like it", x.register(0, 4), 2);
        due("writes()", x.writes(), 4);
    }

    private static void registerReadsAllEarlierOnes() {
        begin("5: FAULT when it can't read one of the schemas that are registered under the subject");
        for (int bad = 0; bad < 4; bad++) {
            SchemaTables x = new SchemaTables();
            x.make(ENUM, 0, 1, NONE);
            x.make(ENUM, 0, 3, 0);
            for (int i = 0; i < 3; i++) {
                x.make(ENUM, 0, i == bad ? 2 : 1, i == bad ? 1 : 0);
                due("register", x.register(0, 2 + i), i);
            }
            due("one of them can't be read", x.register(0, 0), bad < 3 ? FAULT : 3);
            due("under another subject it can", x.register(1, 0), 0);
            due("by its default all of them can", x.register(0, 1), bad < 3 ? 3 : 4);
            due("writes()", x.writes(), bad < 3 ? 5 : 6);
        }
    }

    private static void registerMakesOneWrite() {
        begin("5: its version, after one write of block 1");
        SchemaTables x = plain();
        x.limit(1);
        due("one write", x.register(0, INT), 0);
        due("a further one", x.register(1, INT), DOWN);
        dueBlock(x, 1, 1, 0, INT);
        dueBlock(x, 0);
        x.restart();
        due("versions(0)", x.versions(0), 1);
        due("versions(1)", x.versions(1), 0);
        due("register", x.register(1, LONG), 0);
        dueBlock(x, 1, 2, 0, INT, 1, LONG);
    }

    private static void versionsCountFrom0() {
        begin("6 and 7: the number of versions, and the schema that is version v");
        SchemaTables x = new SchemaTables();
        for (int i = 0; i < 10; i++) {
            x.make(INT, 0, 0, 0);
        }
        for (int count = 0; count <= 10; count++) {
            due("versions(1)", x.versions(1), count);
            due("versions(0)", x.versions(0), 0);
            for (int v = 0; v < count; v++) {
                due("version(1, " + v + ")", x.version(1, v), 9 - v);
            }
            for (int v : new int[] {-1, count, count + 1, LEAST, MOST}) {
                due("version(1, " + v + ")", x.version(1, v), NONE);
            }
            due("version(0, 0)", x.version(0, 0), NONE);
            x.register(1, 9 - count);
        }
        x.drop();
        due("version(1, 9)", x.version(1, 9), 0);
    }

    private static void giveTakes24() {
        begin("8: answers how many it has; NONE when there are 24");
        SchemaTables x = plain();
        x.make(ARRAY, 0, NULL, 0);
        x.make(ARRAY, 0, 4, 0);
        for (int i = 0; i < 3; i++) {
            x.field(i, 5, false, 0);
        }
        due("up to twelve numbers", x.make(RECORD, 0, 0, 0), 6);
        x.field(0, 6, false, 0);
        x.field(1, 6, false, 0);
        due("up to 24 numbers", x.make(RECORD, 1, 0, 0), 7);
        x.register(0, 7);
        for (int round = 0; round < 2; round++) {
            for (int i = 0; i < 24; i++) {
                due("give", x.give(i % 4 == 0 ? 3 : i % 4), i + 1);
            }
            due("the 25th", x.give(BIG), NONE);
            due("the 25th again", x.give(0), NONE);
            due("just one value", x.stage(7), 6 * 8);
            due("an empty row", x.give(0), 1);
            x.drop();
        }
    }

    private static void stageNeedsASchema() {
        begin("9: NONE when there is no such schema");
        SchemaTables x = plain();
        x.give(1);
        for (int schema : new int[] {-1, 4, 5, 24, LEAST, MOST}) {
            due("schema " + schema, x.stage(schema), NONE);
        }
        due("the last", x.stage(3), 1);
        x.drop();
        due("the first", x.stage(0), 0);
    }

    private static void stageTakesOneSchemaAtATime() {
        begin("9: NONE when records of another schema are staged");
        SchemaTables x = plain();
        due("one just like INT", x.make(INT, 0, 0, 0), 4);
        x.register(0, INT);
        due("INT", staged(x, INT, 1), 1);
        due("LONG", staged(x, LONG, 2), NONE);
        due("the same in all but its number", x.stage(4), NONE);
        due("INT", x.stage(INT), 1);
        due("load", x.load(0), 2);
        due("nothing is staged then", staged(x, LONG, 3), 1);
        due("INT", staged(x, INT, 4), NONE);
        x.drop();
        due("nothing is staged then", staged(x, INT, 5), 1);
        due("a record without bytes is one, too", x.make(RECORD, 0, 0, 0), 5);
        x.drop();
        due("NULL", x.stage(NULL), 0);
        due("RECORD", x.stage(5), NONE);
    }

    private static void stageTakesTenRecords() {
        begin("9: FULL when ten records are staged");
        for (int schema = NULL; schema <= LONG; schema++) {
            SchemaTables x = plain();
            x.register(0, schema);
            long[] row = schema == NULL ? new long[0] : new long[] {1};
            for (int i = 0; i < 10; i++) {
                due("record " + i, staged(x, schema, row), row.length);
            }
            due("the eleventh", staged(x, schema, row), FULL);
            due("the eleventh again", x.stage(schema), FULL);
            due("load", x.load(0), 10);
            due("then there is room", x.stage(schema), row.length);
        }
    }

    private static void stageTakes150Bytes() {
        begin("9: FULL when they would have more than 150 bytes together");
        for (int last = 20; last <= 24; last++) {
            SchemaTables x = longs();
            stageBytes(x, 128);
            due("128 bytes and " + last, staged(x, LONGS, arrayOf(last)), last <= 22 ? last : FULL);
            due("the row then", x.give(0), last <= 22 ? 1 : arrayOf(last).length + 1);
        }
        for (int first = 118; first <= 150; first++) {
            SchemaTables x = longs();
            int records = stageBytes(x, first);
            int room = 150 - first;
            due("one byte more", staged(x, LONGS, 0), room >= 1 ? 1 : FULL);
            due("load", x.load(0), room >= 1 ? records + 1 : records);
            due("its bytes", x.octet(2, 4), room >= 1 ? first + 1 : first);
        }
        for (int bytes : new int[] {16, 149, 150, 151, 160}) {
            dueRecordAlone(bytes);
        }
    }

    /** One record of sixteen LONGs with so many bytes in all. */
    private static void dueRecordAlone(int bytes) {
        SchemaTables x = plain();
        x.field(0, LONG, false, 0);
        x.field(1, LONG, false, 0);
        due("4: two LONGs", x.make(RECORD, 0, 0, 0), 4);
        for (int twice = 4; twice <= 6; twice++) {
            x.field(0, twice, false, 0);
            x.field(1, twice, false, 0);
            due("four, eight, sixteen LONGs", x.make(RECORD, 0, 0, 0), twice + 1);
        }
        int left = bytes;
        for (int behind = 15; behind >= 0; behind--) {
            int here = Math.min(10, left - behind);
            x.give(numberOf(here));
            left -= here;
        }
        due("a record alone, of " + bytes + " bytes", x.stage(7), bytes <= 150 ? bytes : FULL);
        due("the row then", x.give(0), bytes <= 150 ? 1 : 17);
    }

    private static void stageEmptiesTheRow() {
        begin("9: is staged as a record, and is empty then; answers how many bytes it has, coded");
        SchemaTables x = plain();
        x.register(0, LONG);
        int[] lengths = {1, 2, 3, 4, 5, 6, 7, 8, 9, 10};
        for (int length : lengths) {
            due("bytes", staged(x, LONG, numberOf(length)), length);
            due("the row is empty", x.stage(LONG), NONE);
        }
        due("load", x.load(0), 10);
        due("bytes in all", x.octet(2, 4), 55);
    }

    private static void dropEmptiesBoth() {
        begin("10: Empties the row at hand, and what is staged: 0");
        for (int rows = 0; rows < 2; rows++) {
            for (int records = 0; records < 2; records++) {
                SchemaTables x = plain();
                x.register(0, LONG);
                for (int i = 0; i < 10 * records; i++) {
                    staged(x, LONG, i);
                }
                for (int i = 0; i < 24 * rows; i++) {
                    x.give(i);
                }
                due("drop", x.drop(), 0);
                due("nothing is staged", x.load(0), NONE);
                due("the row is empty", x.give(7), 1);
                due("no schema is staged", x.stage(INT), 1);
                due("drop", x.drop(), 0);
                due("drop", x.drop(), 0);
            }
        }
    }

    private static void loadAnswersTheRecordsOfTheSubject() {
        begin("11: Answers the number of records of the subject; nothing is staged then");
        SchemaTables x = plain();
        x.register(0, INT);
        x.register(1, INT);
        int[] records = new int[2];
        int[][] loads = {{0, 1}, {1, 10}, {0, 9}, {0, 10}, {1, 1}, {0, 2}};
        for (int[] load : loads) {
            for (int i = 0; i < load[1]; i++) {
                staged(x, INT, i);
            }
            records[load[0]] += load[1];
            due("load", x.load(load[0]), records[load[0]]);
            due("nothing is staged", x.load(load[0]), NONE);
        }
        due("records(0)", x.records(0), 22);
        due("records(1)", x.records(1), 11);
    }

    private static void loadNeedsWhatIsStagedAndRegistered() {
        begin("11: NONE when nothing is staged, or the schema of what is staged is not registered under it");
        SchemaTables x = plain();
        x.register(0, INT);
        x.register(1, LONG);
        due("nothing is staged", x.load(0), NONE);
        x.give(1);
        due("a row at hand is not staged", x.load(0), NONE);
        x.stage(INT);
        due("not registered under 1", x.load(1), NONE);
        due("nothing is registered under 2", x.load(2), NONE);
        due("writes()", x.writes(), 2);
        due("registered under 0", x.load(0), 1);
        staged(x, INT, 2);
        due("not registered under 1", x.load(1), NONE);
        x.make(INT, 0, 0, 0);
        x.register(2, 4);
        due("one just like it is, under 2", x.load(2), NONE);
        due("register", x.register(2, INT), 1);
        due("now it is", x.load(2), 1);
    }

    private static void loadTakesNineFiles() {
        begin("11: FULL when there are nine files in all");
        for (int ofFirst = 0; ofFirst <= 9; ofFirst++) {
            SchemaTables x = plain();
            x.register(0, NULL);
            x.register(2, NULL);
            for (int i = 0; i < 9; i++) {
                boolean first = i < ofFirst;
                due("load", loaded(x, first ? 0 : 2, NULL), first ? i + 1 : i + 1 - ofFirst);
            }
            int writes = x.writes();
            due("the tenth", loaded(x, 0, NULL), FULL);
            due("the tenth", x.load(2), FULL);
            due("writes()", x.writes(), writes);
            due("files", x.files(0) + x.files(1) + x.files(2), 9);
            due("compact", x.compact(ofFirst > 4 ? 0 : 2), 1);
            due("then there is room", x.load(0), ofFirst + 1);
            due("and no more", loaded(x, 0, NULL), FULL);
        }
    }

    /** Files of subject 0 with so many records each, at most ten each. */
    private static SchemaTables counted(int... counts) {
        SchemaTables x = plain();
        x.register(0, NULL);
        for (int count : counts) {
            for (int i = 0; i < count; i++) {
                x.stage(NULL);
            }
            x.load(0);
        }
        return x;
    }

    private static void compactJoinsUpTo20Records() {
        begin("12: which together have at most 20 records");
        SchemaTables x = counted(9, 10);
        due("19", x.compact(0), 1);
        dueBytes(x, 4, 0, 83, 0, 19, 0, 0, 102, 0);
        x = counted(10, 10);
        due("20", x.compact(0), 1);
        dueBytes(x, 4, 0, 83, 0, 20, 0, 0, 103, 0);
        x = counted(10, 10, 1);
        due("20", x.compact(0), 1);
        due("20 and 1", x.compact(0), 0);
        due("files", x.files(0), 2);
        x = counted(10, 9, 1, 1);
        due("19", x.compact(0), 1);
        due("19 and 1", x.compact(0), 1);
        due("20 and 1", x.compact(0), 0);
        due("files", x.files(0), 2);
        due("records", x.records(0), 21);
        x = counted(10, 9, 2);
        due("19", x.compact(0), 1);
        due("19 and 2", x.compact(0), 0);
    }

    /** Files of subject 0 with so many bytes of records each. */
    private static SchemaTables sized(int... sizes) {
        SchemaTables x = longs();
        for (int size : sizes) {
            stageBytes(x, size);
            x.load(0);
        }
        return x;
    }

    private static void compactJoinsUpTo200Bytes() {
        begin("12: and at most 200 bytes of records");
        for (int second = 48; second <= 53; second++) {
            SchemaTables x = sized(150, second);
            int writes = x.writes();
            boolean fits = second <= 50;
            due("150 bytes and " + second, x.compact(0), fits ? 1 : 0);
            due("files", x.files(0), fits ? 1 : 2);
            due("writes", x.writes(), fits ? writes + 8 : writes);
            x = sized(second, 150);
            due(second + " bytes and 150", x.compact(0), fits ? 1 : 0);
            if (fits) {
                int place = 2 + (second + 37) / 32 + 5;
                dueBlock(x, 0, 1, 0, place, 7);
                dueBytes(x, place, 3, 0, 150 + second);
            }
        }
        SchemaTables x = sized(100, 100, 1);
        due("200", x.compact(0), 1);
        due("200 and 1", x.compact(0), 0);
        x = sized(100, 99, 1);
        due("199", x.compact(0), 1);
        due("199 and 1", x.compact(0), 1);
        due("records", x.records(0), 4 + 4 + 1);
        due("one file", x.files(0), 1);
    }

    private static void compactTakesTheFirstPair() {
        begin("12: of several such pairs the first; the second is the subject's next file behind the first");
        SchemaTables x = counted(10, 10, 1, 9, 3, 7);
        due("10 and 10, the first", x.compact(0), 1);
        dueBlock(x, 0, 5, 0, 8, 1, 0, 4, 1, 0, 5, 1, 0, 6, 1, 0, 7, 1);
        due("not 20 and 1, but 1 and 9", x.compact(0), 1);
        dueBlock(x, 0, 4, 0, 8, 1, 0, 2, 1, 0, 6, 1, 0, 7, 1);
        due("not 20 and 10, but 10 and 3", x.compact(0), 1);
        dueBlock(x, 0, 3, 0, 8, 1, 0, 3, 1, 0, 7, 1);
        due("13 and 7", x.compact(0), 1);
        dueBlock(x, 0, 2, 0, 8, 1, 0, 2, 1);
        due("20 and 20", x.compact(0), 0);
        due("records", x.records(0), 40);
        x = plain();
        x.register(0, NULL);
        x.register(1, NULL);
        for (int i = 0; i < 5; i++) {
            loaded(x, i % 2, NULL);
        }
        due("with another subject's between", x.compact(1), 1);
        dueBlock(x, 0, 4, 0, 2, 1, 1, 7, 1, 0, 4, 1, 0, 6, 1);
        due("the first and the second", x.compact(0), 1);
        dueBlock(x, 0, 3, 0, 3, 1, 1, 7, 1, 0, 6, 1);
        due("0 is done yet", x.compact(0), 1);
        due("one file is no pair", x.compact(0), 0);
        due("no file is none", x.compact(2), 0);
    }

    private static void compactNeedsTheSameSchema() {
        begin("12: Joins two files of a subject with the same schema");
        SchemaTables x = plain();
        due("one just like INT", x.make(INT, 0, 0, 0), 4);
        x.register(0, INT);
        x.register(0, 4);
        loaded(x, 0, INT, 1);
        loaded(x, 0, 4, 2);
        loaded(x, 0, INT, 3);
        due("INT, its like, INT: not two that follow one another", x.compact(0), 0);
        loaded(x, 0, INT, 4);
        due("INT and INT", x.compact(0), 1);
        dueBlock(x, 0, 3, 0, 2, 1, 0, 3, 1, 0, 6, 1);
        for (int k = 0; k < 4; k++) {
            dueRecord(x, 0, k, 4, k + 1);
        }
    }

    /** Two files of 100 bytes, four blocks each, of subject 0; the others, of subject 1, leave so many blocks free. */
    private static SchemaTables pairAndFree(int free) {
        SchemaTables x = sized(100, 100);
        x.register(1, LONGS);
        int left = 30 - free;
        while (left > 0) {
            int blocks = Math.min(5, left);
            stageBytes(x, Math.min(150, 32 * blocks - 6));
            due("load", x.load(1) > 0, true);
            left -= blocks;
        }
        return x;
    }

    private static void compactNeedsFreeBlocks() {
        begin("12: FULL when there are no free blocks for it (those of the two files are not free)");
        for (int free = 0; free <= 9; free++) {
            SchemaTables x = pairAndFree(free);
            int writes = x.writes();
            boolean fits = free >= 7;
            due("seven blocks, free are " + free, x.compact(0), fits ? 1 : FULL);
            due("writes()", x.writes(), fits ? writes + 8 : writes);
            due("files(0)", x.files(0), fits ? 1 : 2);
            due("records(0)", x.records(0), 8);
            due("its place", x.octet(0, 2), fits ? 40 - free : 2);
            due("other subjects", x.compact(2), 0);
        }
        begin("12: of several such pairs the first: also when there are free blocks for a later one alone");
        SchemaTables x = sized(100, 100, 1, 1);
        x.register(1, LONGS);
        for (int i = 0; i < 5; i++) {
            stageBytes(x, 150);
            due("load", x.load(1) > 0, true);
        }
        due("the first pair's seven blocks, free are three", x.compact(0), FULL);
        due("files(0)", x.files(0), 4);
    }

    private static void compactPutsItInPlaceOfTheFirst() {
        begin("12: in the manifest it stands in place of the first, and the second is no more");
        SchemaTables x = plain();
        x.register(0, INT);
        x.register(0, LONG);
        x.register(2, INT);
        loaded(x, 0, LONG, 1);
        loaded(x, 2, INT, 2);
        loaded(x, 0, INT, 3);
        loaded(x, 2, INT, 4);
        loaded(x, 0, INT, 5);
        loaded(x, 2, INT, 6);
        due("compact(0)", x.compact(0), 1);
        dueBlock(x, 0, 5, 0, 2, 1, 2, 3, 1, 0, 8, 1, 2, 5, 1, 2, 7, 1);
        dueBlock(x, 8, 83, INT, 2, 0, 2, 6, 10, 83 + 2 + 2 + 2 + 16);
        due("the first's bytes are there", x.octet(4, 0), 83);
        due("the second's bytes are there", x.octet(6, 0), 83);
        loaded(x, 2, INT, 7);
        due("but it is free", x.octet(0, 17), 4);
        long[] numbers = {1, 3, 5};
        for (int k = 0; k < 3; k++) {
            dueRecord(x, 0, k, LONG, numbers[k]);
        }
    }

    private static void readNeedsARegisteredSchema() {
        begin("13: NONE when there is no such schema, or the schema isn't registered under it");
        SchemaTables x = plain();
        x.register(0, INT);
        x.register(1, LONG);
        loaded(x, 0, INT, 6);
        for (int schema : new int[] {-1, 4, 5, 24, LEAST, MOST}) {
            due("schema " + schema, x.read(0, 0, schema), NONE);
        }
        due("LONG is registered under another", x.read(0, 0, LONG), NONE);
        due("BOOLEAN under none", x.read(0, 0, BOOLEAN), NONE);
        dueRecord(x, 0, 0, INT, 6);
        due("not registered, before FAULT", x.read(0, 0, BOOLEAN), NONE);
        x.register(0, LONG);
        dueRecord(x, 0, 0, LONG, 6);
    }

    private static void readNeedsARecord() {
        begin("13: record k (from 0); NONE when there is no such record");
        SchemaTables x = plain();
        x.register(0, INT);
        x.register(1, INT);
        int count = 0;
        for (int records = 0; records <= 3; records++) {
            for (int i = 0; i < records; i++) {
                staged(x, INT, count + i);
            }
            x.load(0);
            count += records;
            for (int k = 0; k < count; k++) {
                dueRecord(x, 0, k, INT, k);
            }
            for (int k : new int[] {-1, count, count + 1, LEAST, MOST}) {
                due("record " + k + " of " + count, x.read(0, k, INT), NONE);
            }
            due("no records", x.read(1, 0, INT), NONE);
        }
    }

    /**
     * A writer's record of an ARRAY of ARRAYs with so many RECORDs without fields each, and the INT -7; in the
     * reader's schema, 11, each of these RECORDs has three fields with a default, so many of them BOOLEANs.
     */
    private static SchemaTables widening(int booleans, int... counts) {
        SchemaTables x = plain();
        due("4: no fields", x.make(RECORD, 0, 0, 0), 4);
        for (int i = 0; i < 3; i++) {
            x.field(i, i < booleans ? BOOLEAN : NULL, true, i < booleans ? 1 : 0);
        }
        due("5: its reader", x.make(RECORD, 0, 0, 0), 5);
        for (int inner = 4; inner <= 5; inner++) {
            due("ARRAY", x.make(ARRAY, 0, inner, 0), 3 * inner - 6);
            due("ARRAY of it", x.make(ARRAY, 0, 3 * inner - 6, 0), 3 * inner - 5);
            x.field(0, 3 * inner - 5, false, 0);
            x.field(1, INT, false, 0);
            due("RECORD", x.make(RECORD, 1, 0, 0), 3 * inner - 4);
        }
        due("register", x.register(0, 8), 0);
        due("register", x.register(0, 11), 1);
        x.give(counts.length);
        for (int count : counts) {
            x.give(count);
        }
        x.give(-7);
        due("stage", x.stage(8) > 0, true);
        due("load", x.load(0), 1);
        return x;
    }

    private static void readGivesUpTo40Numbers() {
        begin("13: FULL when it has more than 40");
        int[][] counts = {{}, {3, 3, 3}, {3, 3, 2}, {3, 3}, {2, 2, 2}};
        for (int booleans = 0; booleans <= 3; booleans++) {
            for (int[] count : counts) {
                SchemaTables x = widening(booleans, count);
                int inner = 0;
                for (int n : count) {
                    inner += n;
                }
                int numbers = 2 + count.length + booleans * inner;
                due(numbers + " numbers", x.read(0, 0, 11), numbers);
                due("the last", x.number(numbers - 1), -7);
                due("behind the last", x.number(numbers), 0);
            }
        }
        dueNumbersAround40();
    }

    /**
     * Nine RECORDs of four numbers, and four counts, are 40 numbers; up to four more, two for each of two
     * fields with a default, stand behind them.
     */
    private static void dueNumbersAround40() {
        int[] schemas = {NULL, INT, 5};
        for (int more = 0; more <= 4; more++) {
            for (int count = 2; count <= 3; count++) {
                SchemaTables x = plain();
                due("4: no fields", x.make(RECORD, 0, 0, 0), 4);
                due("5: INT or NULL", x.make(UNION, 0, INT, NULL), 5);
                x.field(0, 5, true, 4);
                x.field(1, INT, true, 5);
                x.field(2, INT, true, 6);
                due("6: four numbers", x.make(RECORD, 0, 0, 0), 6);
                x.make(ARRAY, 0, 4, 0);
                due("8: ARRAYs of 4", x.make(ARRAY, 0, 7, 0), 8);
                x.make(ARRAY, 0, 6, 0);
                due("10: ARRAYs of 6", x.make(ARRAY, 0, 9, 0), 10);
                x.field(0, 8, false, 0);
                due("11: the writer's", x.make(RECORD, 0, 0, 0), 11);
                x.field(0, 10, false, 0);
                x.field(1, schemas[Math.min(2, more)], true, more > 0 ? 7 : 0);
                x.field(2, schemas[Math.max(0, more - 2)], true, more > 2 ? 8 : 0);
                due("12: the reader's", x.make(RECORD, 0, 0, 0), 12);
                x.register(0, 11);
                due("register", x.register(0, 12), 1);
                due("load", loaded(x, 0, 11, 3, 3, 3, count), 1);
                int numbers = 4 + 4 * (6 + count) + more;
                due(numbers + " numbers", x.read(0, 0, 12), numbers <= 40 ? numbers : FULL);
                due("number(0)", x.number(0), numbers <= 40 ? 3 : 0);
                due("number(3)", x.number(3), numbers <= 40 ? 4 : 0);
                due("number(39)", x.number(39), numbers == 40 ? (more == 0 ? 6 : 8) : 0);
                due("number(40)", x.number(40), 0);
                dueRecord(x, 0, 0, 11, 3, 3, 3, count);
            }
        }
    }

    private static void numberIsOfTheLatestRead() {
        begin("14: Number i (from 0) of what the latest read gave; 0 when there is none");
        SchemaTables x = longs();
        x.register(1, LONGS);
        for (int count = 0; count <= 3; count++) {
            x.give(count);
            for (int i = 0; i < count; i++) {
                x.give(-BIG + i);
            }
            due("load", loaded(x, 0, LONGS), count + 1);
        }
        for (int count = 3; count >= 0; count--) {
            due("read", x.read(0, count, LONGS), count + 1);
            due("number(0)", x.number(0), count);
            for (int i = 1; i <= 4; i++) {
                due("number(" + i + ")", x.number(i), i <= count ? -BIG + i - 1 : 0);
            }
            for (int i : new int[] {-1, 5, 23, 24, 39, 40, 41, LEAST, MOST}) {
                due("number(" + i + ")", x.number(i), 0);
            }
        }
        begin("14: The numbers of a read are lost by any further call of read, also by one that answers below 0");
        int[][] reads = {{-1, 3, LONGS}, {3, 3, LONGS}, {0, 3, -1}, {0, 3, LONG}, {0, -1, LONGS}, {0, 4, LONGS}, {1, 0, LONGS}};
        for (int[] read : reads) {
            dueRecord(x, 0, 3, LONGS, 3, -BIG, -BIG + 1, -BIG + 2);
            due("read", x.read(read[0], read[1], read[2]), NONE);
            for (int i = 0; i < 5; i++) {
                due("number(" + i + ")", x.number(i), 0);
            }
        }
    }

    private static void recordsAndFilesAreCounted() {
        begin("15 and 16: How many records and files the table of a subject has");
        SchemaTables x = plain();
        x.register(1, NULL);
        for (int files = 0; files <= 9; files++) {
            due("records(1)", x.records(1), files * (files + 1) / 2);
            due("files(1)", x.files(1), files);
            due("records(0)", x.records(0), 0);
            due("files(0)", x.files(0), 0);
            for (int i = 0; i <= files; i++) {
                x.stage(NULL);
            }
            x.load(1);
        }
        due("the tenth file was refused", x.files(1), 9);
        due("compact", x.compact(1), 1);
        due("records(1)", x.records(1), 45);
        due("files(1)", x.files(1), 8);
        due("the tenth, now", x.load(1), 55);
        goDown(x);
        due("records(1) while down", x.records(1), NONE);
        due("files(1) while down", x.files(1), NONE);
        x.restart();
        due("records(1)", x.records(1), 55);
        due("files(1)", x.files(1), 9);
    }

    private static void limitIsNotBelow0() {
        begin("18: Sets the LIMIT (0: the next block write is not made): 0; NONE when writes is below 0");
        for (int writes : new int[] {-1, -2, LEAST}) {
            SchemaTables x = plain();
            due("limit(" + writes + ")", x.limit(writes), NONE);
            due("none was set", x.register(0, INT), 0);
            x.limit(1);
            due("limit(" + writes + ")", x.limit(writes), NONE);
            due("that of before goes on", x.register(1, INT), 0);
            due("that of before goes on", x.register(2, INT), DOWN);
        }
        SchemaTables x = plain();
        due("limit(0)", x.limit(0), 0);
        due("the next write is not made", x.register(0, INT), DOWN);
        x = plain();
        due("limit(1)", x.limit(1), 0);
        due("the next write is made", x.register(0, INT), 0);
        x = plain();
        due("the greatest", x.limit(MOST), 0);
        for (int subject = 0; subject < 3; subject++) {
            due("a write", x.register(subject, INT), 0);
            due("two writes", loaded(x, subject, INT, 5), 1);
        }
    }

    private static void limitTakesThePlaceOfAnother() {
        begin("18: in place of one that there is");
        for (int first = 0; first <= 2; first++) {
            for (int second = 0; second <= 2; second++) {
                SchemaTables x = plain();
                x.limit(first);
                due("limit", x.limit(second), 0);
                int made = 0;
                while (made < 3 && x.register(made, INT) == 0) {
                    made++;
                }
                due("writes of " + second + " behind " + first, made, second);
                due("writes()", x.writes(), second);
            }
        }
        SchemaTables x = plain();
        x.limit(1);
        x.register(0, INT);
        due("one that is used up, too", x.limit(1), 0);
        due("a write", x.register(1, INT), 0);
        due("no more", x.register(2, INT), DOWN);
    }

    private static void restartOnlyWhenDown() {
        begin("19: A machine that is down is up again: true. False when it is up");
        SchemaTables x = plain();
        for (int i = 0; i < 3; i++) {
            due("up", x.restart(), false);
            goDown(x);
            due("down", x.restart(), true);
            due("up", x.restart(), false);
            due("with the versions that the disk has", x.versions(0), i);
            x.make(NULL, 0, 0, 0);
            due("without a limit", x.register(0, 4 + i), i);
        }
        begin("19: False when it is up: and nothing is changed");
        x = plain();
        x.register(0, INT);
        loaded(x, 0, INT, 3);
        x.read(0, 0, INT);
        staged(x, INT, 4);
        x.give(5);
        x.limit(2);
        due("restart()", x.restart(), false);
        dueNumbers(x, 3);
        due("the row", x.stage(INT), 1);
        due("what is staged", x.load(0), 3);
        due("restart()", x.restart(), false);
        due("the limit", x.register(1, INT), DOWN);
    }

    private static void writesAreCountedInAll() {
        begin("20: How many block writes were made in all (restart changes nothing)");
        SchemaTables x = longs();
        due("register", x.writes(), 1);
        int due = 1;
        for (int blocks = 1; blocks <= 5; blocks++) {
            stageBytes(x, blocks == 5 ? 150 : 32 * blocks - 6);
            x.load(0);
            due += blocks + 1;
            due("load of " + blocks + " blocks", x.writes(), due);
        }
        x.compact(0);
        due += 3 + 1;
        due("compact of one and two blocks", x.writes(), due);
        stageBytes(x, 150);
        x.limit(3);
        x.load(0);
        due += 3;
        due("three before it is down", x.writes(), due);
        x.load(0);
        x.restart();
        due("restart changes nothing", x.writes(), due);
        x.give(1);
        x.stage(LONG);
        x.drop();
        x.read(0, 0, LONGS);
        x.limit(9);
        x.make(INT, 0, 0, 0);
        due("nor do others", x.writes(), due);
    }
}
