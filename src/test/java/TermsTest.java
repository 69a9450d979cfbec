import java.math.BigInteger;
import java.util.ArrayList;
import java.util.List;

/**
 * The sentences of the document's section "Terms" on schemas, values, their bytes and their reading: for each that
 * names a boundary, a test of its own, with what lies inside the boundary, at it, and outside it.
 */
public final class TermsTest extends Cases {
    private static final int[] OUT_OF_NAMES = {-1, 8, 9, 16, 32, 256, LEAST, MOST};

    public static void main(String[] args) {
        schemasAreAtMost24();
        schemasStay();
        kindsAre0To7();
        enumNamesAre0To7();
        enumSymbolsAreNotEmpty();
        enumDefaultIsOneOfTheSymbols();
        recordNamesAre0To7();
        fieldsAreAtMostThree();
        fieldNamesAre0To7();
        noTwoFieldsHaveOneName();
        depthIsAtMost6();
        valuesOfPlainKinds();
        valuesOfEnums();
        valuesOfArrays();
        valuesOfUnions();
        valuesOfRecords();
        wrongPartsAreNotMadeGood();
        defaultsOfPlainKinds();
        defaultsOfEnums();
        defaultsOfNullAndArray();
        defaultsOfUnions();
        recordsHaveNoDefault();
        defaultsAreRead();
        varintsHaveAsFewBytesAsNeeded();
        enumsAreCodedByRank();
        arraysEndWithZero();
        unionsAndRecordsAreCodedInOrder();
        resolvingNeedsFittingKinds();
        resolvingTakesTheFirstMatchingBranch();
        resolvingTakesTheWritersBranch();
        resolvingEnums();
        resolvingArrays();
        resolvingRecords();
        whatRemainsIsLeftOut();
        faultOfAPartIsTheWholes();
        arraysMatchByTheirItems();
        unionsReadAndAreRead();
        enumsReadBySymbols();
        recordsReadByFields();
        CHECK.end();
    }

    private static void schemasAreAtMost24() {
        begin("SCHEMAS are numbered from 0; there are at most 24");
        for (int kind = NULL; kind <= RECORD; kind++) {
            SchemaTables x = plain();
            for (int i = 4; i < 23; i++) {
                due("make", x.make(INT, 0, 0, 0), i);
            }
            due("the 24th, kind " + kind, x.make(kind, 0, 1, 0), 23);
            for (int other = NULL; other <= RECORD; other++) {
                due("the 25th, kind " + other, x.make(other, 0, 1, 0), NONE);
            }
            due("23 is there", x.canRead(23, 23), true);
            due("24 is not", x.canRead(24, 24), false);
            due("24 is not", x.register(0, 24), NONE);
            due("23 is there", x.register(0, 23), 0);
        }
    }

    private static void schemasStay() {
        begin("SCHEMAS stay");
        SchemaTables x = plain();
        x.make(ENUM, 3, 0b101, 2);
        x.make(ARRAY, 0, 4, 0);
        x.make(UNION, 0, 5, 0);
        x.field(1, 6, true, 0);
        x.make(RECORD, 7, 0, 0);
        goDown(x);
        x.restart();
        x.drop();
        due("stage(7)", staged(x, 7, 0, 2, 0, 2), 5);
        due("a symbol that is none", staged(x, 7, 0, 1, 1), NONE);
        due("canRead(7, 7)", x.canRead(7, 7), true);
        due("the next one's number", x.make(NULL, 0, 0, 0), 8);
    }

    private static void kindsAre0To7() {
        begin("The KINDS: 0 .. 7");
        SchemaTables x = new SchemaTables();
        for (int kind = NULL; kind <= RECORD; kind++) {
            due("kind " + kind, x.make(kind, 0, 1, 0), kind);
        }
        for (int kind : new int[] {-1, -2, 8, 9, 256, LEAST, MOST}) {
            due("kind " + kind, x.make(kind, 0, 1, 0), NONE);
        }
        due("the next one's number", x.make(NULL, 0, 0, 0), 8);
    }

    private static void enumNamesAre0To7() {
        begin("ENUM: a name 0 .. 7");
        SchemaTables x = new SchemaTables();
        for (int name = 0; name < 8; name++) {
            due("name " + name, x.make(ENUM, name, 1, NONE), name);
        }
        for (int name : OUT_OF_NAMES) {
            due("name " + name, x.make(ENUM, name, 1, NONE), NONE);
        }
        for (int r = 0; r < 8; r++) {
            for (int w = 0; w < 8; w++) {
                due("canRead, by name", x.canRead(r, w), r == w);
            }
        }
    }

    private static void enumSymbolsAreNotEmpty() {
        begin("ENUM: a set of SYMBOLS of 0 .. 7 (not empty)");
        SchemaTables x = new SchemaTables();
        for (int set : new int[] {0, -1, -2, -255, 256, 257, 511, 1 << 16, LEAST, MOST}) {
            due("set " + set, x.make(ENUM, 0, set, NONE), NONE);
        }
        for (int symbol = 0; symbol < 8; symbol++) {
            due("symbol " + symbol, x.make(ENUM, 0, 1 << symbol, NONE), symbol);
        }
        due("all", x.make(ENUM, 0, 255, NONE), 8);
        due("all but one", x.make(ENUM, 0, 254, NONE), 9);
    }

    private static void enumDefaultIsOneOfTheSymbols() {
        begin("ENUM: perhaps a default, one of them");
        for (int set = 1; set < 256; set++) {
            SchemaTables x = new SchemaTables();
            int made = 0;
            for (int symbol = -3; symbol < 11; symbol++) {
                boolean fits = symbol == NONE || symbol >= 0 && symbol < 8 && (set >> symbol & 1) == 1;
                due("set " + set + ", default " + symbol, x.make(ENUM, 0, set, symbol), fits ? made : NONE);
                made += fits ? 1 : 0;
            }
        }
        SchemaTables x = new SchemaTables();
        for (int symbol : new int[] {31, 32, 33, 64, 256, LEAST, MOST}) {
            due("default " + symbol, x.make(ENUM, 0, 255, symbol), NONE);
        }
    }

    private static void recordNamesAre0To7() {
        begin("RECORD: a name 0 .. 7");
        SchemaTables x = new SchemaTables();
        for (int name = 0; name < 8; name++) {
            due("name " + name, x.make(RECORD, name, 0, 0), name);
        }
        for (int name : OUT_OF_NAMES) {
            due("name " + name, x.make(RECORD, name, 0, 0), NONE);
        }
        for (int r = 0; r < 8; r++) {
            for (int w = 0; w < 8; w++) {
                due("canRead, by name", x.canRead(r, w), r == w);
            }
        }
    }

    private static void fieldsAreAtMostThree() {
        begin("RECORD: at most three FIELDS");
        for (int fields = 0; fields <= 4; fields++) {
            SchemaTables x = plain();
            for (int i = 0; i < fields; i++) {
                due("field " + i, x.field(i, BOOLEAN, false, 0), i < 3 ? i + 1 : NONE);
            }
            due("make", x.make(RECORD, 0, 0, 0), 4);
            int numbers = Math.min(3, fields);
            for (int i = 0; i < numbers; i++) {
                due("one number too few", x.stage(4), NONE);
                x.give(1);
            }
            due("as many numbers as fields", x.stage(4), numbers);
        }
    }

    private static void fieldNamesAre0To7() {
        begin("FIELDS: each with a name 0 .. 7");
        for (int name = 0; name < 8; name++) {
            due("name " + name, plain().field(name, INT, false, 0), 1);
        }
        SchemaTables x = plain();
        for (int name : OUT_OF_NAMES) {
            due("name " + name, x.field(name, INT, false, 0), NONE);
        }
        due("none of them was taken", x.field(0, INT, false, 0), 1);
    }

    private static void noTwoFieldsHaveOneName() {
        begin("FIELDS: no two the same");
        for (int first = 0; first < 8; first++) {
            for (int second = 0; second < 8; second++) {
                SchemaTables x = plain();
                x.field(first, INT, false, 0);
                boolean differs = first != second;
                due("field(" + second + ") behind " + first, x.field(second, LONG, false, 0), differs ? 2 : NONE);
                int third = first == 7 || second == 7 ? 0 : 7;
                third = first == third || second == third ? 3 : third;
                due("first again", x.field(first, LONG, false, 0), NONE);
                due("second again", x.field(second, LONG, false, 0), NONE);
                due("another one", x.field(third, LONG, false, 0), differs ? 3 : 2);
                due("make", x.make(RECORD, 0, 0, 0), 4);
                due("the next record's has it again", x.field(first, LONG, false, 0), 1);
            }
        }
    }

    private static final int WAYS = 6;

    /** A schema that has another one as its item, its branch 0 or 1, or its first, second or third field. */
    private static int above(SchemaTables x, int schema, int way) {
        switch (way) {
            case 0:
                return x.make(ARRAY, 0, schema, 0);
            case 1:
                return x.make(UNION, 0, schema, NULL);
            case 2:
                return x.make(UNION, 0, NULL, schema);
            default:
                for (int i = 0; i < 3; i++) {
                    x.field(i, i == way - 3 ? schema : INT, false, 0);
                }
                return x.make(RECORD, 0, 0, 0);
        }
    }

    private static void depthIsAtMost6() {
        begin("The DEPTH of a schema is at most 6");
        for (int way = 0; way < WAYS; way++) {
            SchemaTables x = plain();
            int[] ofDepth = new int[7];
            ofDepth[1] = INT;
            for (int depth = 2; depth <= 6; depth++) {
                ofDepth[depth] = x.make(ARRAY, 0, ofDepth[depth - 1], 0);
            }
            due("an ARRAY of depth 7", x.make(ARRAY, 0, ofDepth[6], 0), NONE);
            due("depth 5, way " + way, above(x, ofDepth[4], way), 9);
            due("depth 6, way " + way, above(x, ofDepth[5], way), 10);
            due("depth 7, way " + way, above(x, ofDepth[6], way), NONE);
            due("depth 7 upon that of 6, way " + way, x.make(ARRAY, 0, 10, 0), NONE);
            due("depth 6 upon that of 5, way " + way, x.make(ARRAY, 0, 9, 0), 11);
            due("a value of depth 6", staged(x, ofDepth[6], 1, 1, 1, 1, 1, 5), 11);
        }
    }

    /** What stage answers for a row that is all that an object's row at hand has. */
    private static void dueStage(int[] makes, int bytes, long... row) {
        SchemaTables x = plain();
        int schema = makeAll(x, makes);
        due("stage of kind " + makes[makes.length - 4] + ", " + row.length + " numbers, the first "
            + (row.length > 0 ? row[0] : 0), staged(x, schema, row), bytes);
        due("the row then", x.give(0), bytes == NONE ? row.length + 1 : 1);
    }

    private static void valuesOfPlainKinds() {
        int[] ofNull = {NULL, 0, 0, 0};
        int[] ofBoolean = {BOOLEAN, 0, 0, 0};
        int[] ofInt = {INT, 0, 0, 0};
        int[] ofLong = {LONG, 0, 0, 0};
        begin("A VALUE: NULL none");
        dueStage(ofNull, 0);
        dueStage(ofNull, NONE, 0);
        dueStage(ofNull, NONE, 1);
        begin("A VALUE: BOOLEAN 0 or 1");
        dueStage(ofBoolean, 1, 0);
        dueStage(ofBoolean, 1, 1);
        for (long n : new long[] {-1, 2, 3, WRAPS, WRAPS + 1, -WRAPS, Long.MIN_VALUE, BIG}) {
            dueStage(ofBoolean, NONE, n);
        }
        begin("A VALUE: INT an int");
        for (long n : new long[] {LEAST, LEAST + 1L, MOST - 1L, MOST}) {
            dueStage(ofInt, 5, n);
        }
        for (long n : new long[] {LEAST - 1L, MOST + 1L, WRAPS, WRAPS - 1, -WRAPS, Long.MIN_VALUE, BIG}) {
            dueStage(ofInt, NONE, n);
        }
        begin("A VALUE: LONG a long");
        for (long n : new long[] {Long.MIN_VALUE, Long.MIN_VALUE + 1, BIG - 1, BIG}) {
            dueStage(ofLong, 10, n);
        }
        begin("A VALUE is a row of numbers: none too few, none too many");
        for (int[] makes : new int[][] {ofBoolean, ofInt, ofLong}) {
            dueStage(makes, NONE);
            dueStage(makes, 1, 1);
            dueStage(makes, NONE, 1, 1);
        }
    }

    private static void valuesOfEnums() {
        begin("A VALUE: ENUM one of its symbols");
        for (int set = 1; set < 256; set++) {
            SchemaTables x = new SchemaTables();
            int lowest = Integer.numberOfTrailingZeros(set);
            x.make(ENUM, 0, set, set % 2 == 0 ? NONE : lowest);
            for (int n = -2; n < 10; n++) {
                boolean isSymbol = n >= 0 && n < 8 && (set >> n & 1) == 1;
                due("set " + set + ", " + n, staged(x, 0, n), isSymbol ? 1 : NONE);
                x.drop();
            }
            for (long n : new long[] {lowest + 32, lowest + 64, lowest + WRAPS, lowest - WRAPS, BIG, Long.MIN_VALUE}) {
                due("set " + set + ", " + n, staged(x, 0, n), NONE);
                x.drop();
            }
        }
    }

    private static void valuesOfArrays() {
        begin("A VALUE: ARRAY a count 0 .. 3, then the values of so many items");
        int[] ofNulls = {ARRAY, 0, NULL, 0};
        dueStage(ofNulls, 1, 0);
        for (int count = 1; count <= 3; count++) {
            dueStage(ofNulls, 2, count);
        }
        for (long count : new long[] {-1, 4, 5, WRAPS, WRAPS + 1, WRAPS + 3, Long.MIN_VALUE, BIG}) {
            dueStage(ofNulls, NONE, count);
        }
        int[] ofInts = {ARRAY, 0, INT, 0};
        for (int count = 0; count <= 4; count++) {
            for (int items = 0; items <= 5; items++) {
                long[] row = new long[1 + items];
                row[0] = count;
                boolean fits = count == items && count <= 3;
                dueStage(ofInts, fits ? (count == 0 ? 1 : count + 2) : NONE, row);
            }
        }
        dueStage(ofInts, NONE);
        for (int wrong = 1; wrong <= 3; wrong++) {
            long[] row = {3, 0, 0, 0};
            row[wrong] = WRAPS;
            dueStage(ofInts, NONE, row);
        }
    }

    private static void valuesOfUnions() {
        begin("A VALUE: UNION the number of a branch, then a value of it");
        int[] union = {UNION, 0, NULL, BOOLEAN};
        dueStage(union, NONE);
        dueStage(union, 1, 0);
        dueStage(union, NONE, 0, 0);
        dueStage(union, NONE, 1);
        dueStage(union, 2, 1, 1);
        dueStage(union, NONE, 1, 2);
        dueStage(union, NONE, 1, 1, 1);
        for (long branch : new long[] {-1, 2, WRAPS, WRAPS + 1, BIG, Long.MIN_VALUE}) {
            dueStage(union, NONE, branch);
            dueStage(union, NONE, branch, 1);
        }
    }

    private static void valuesOfRecords() {
        begin("A VALUE: RECORD the values of its fields in order");
        SchemaTables x = plain();
        x.field(6, LONG, false, 0);
        x.field(2, BOOLEAN, false, 0);
        x.field(4, INT, false, 0);
        x.make(RECORD, 0, 0, 0);
        due("in order", staged(x, 4, BIG, 1, MOST), 16);
        for (long[] row : new long[][] {{}, {BIG}, {BIG, 1}, {BIG, 2, MOST}, {BIG, 1, BIG}, {1, BIG, MOST}, {MOST, 1, BIG},
            {BIG, 1, MOST, 0}}) {
            due("no value", staged(x, 4, row), NONE);
            due("the row stays", x.give(0), row.length + 1);
            x.drop();
        }
        x.make(RECORD, 0, 0, 0);
        due("no fields", x.stage(5), 0);
        due("no fields, but a number", staged(x, 5, 0), NONE);
    }

    private static void wrongPartsAreNotMadeGood() {
        begin("A VALUE: a row with a wrong part is none, though its other parts could be found in it");
        dueWrongPart(new int[] {BOOLEAN, 0, 0, 0}, 7);
        dueWrongPart(new int[] {INT, 0, 0, 0}, WRAPS);
        dueWrongPart(new int[] {ENUM, 0, 1, NONE}, 7);
        dueWrongPart(new int[] {ARRAY, 0, NULL, 0}, 4);
        dueWrongPart(new int[] {UNION, 0, NULL, BOOLEAN}, 5);
    }

    /** Of RECORD { RECORD { the schema, INT, INT or NULL }, LONG } the wrong number alone could be the LONG. */
    private static void dueWrongPart(int[] makes, long wrong) {
        SchemaTables x = plain();
        int first = makeAll(x, makes);
        int union = x.make(UNION, 0, INT, NULL);
        x.field(0, first, false, 0);
        x.field(1, INT, false, 0);
        x.field(2, union, false, 0);
        int inner = x.make(RECORD, 0, 0, 0);
        x.field(0, inner, false, 0);
        x.field(1, LONG, false, 0);
        int outer = x.make(RECORD, 1, 0, 0);
        due("an empty row", x.stage(inner), NONE);
        due("an empty row", x.stage(outer), NONE);
        due("the wrong number alone", staged(x, outer, wrong), NONE);
        due("and others", staged(x, outer, 0, 0, 0, 0), NONE);
        x.drop();
        due("a value", staged(x, outer, 0, 0, 0, 0, wrong) > 0, true);
    }

    private static void dueDefault(int[] makes, long value, boolean fits) {
        SchemaTables x = plain();
        int schema = makeAll(x, makes);
        String what = "kind " + makes[makes.length - 4] + ", default " + value;
        due(what, x.field(0, schema, true, value), fits ? 1 : NONE);
        due(what + ", but without one", x.field(1, schema, false, value), fits ? 2 : 1);
    }

    private static void defaultsOfPlainKinds() {
        begin("A default: d itself for BOOLEAN, INT, LONG");
        for (long d : new long[] {-1, 0, 1, 2, LEAST - 1L, LEAST, MOST, MOST + 1L, WRAPS, WRAPS + 1, BIG, Long.MIN_VALUE}) {
            dueDefault(new int[] {BOOLEAN, 0, 0, 0}, d, d == 0 || d == 1);
            dueDefault(new int[] {INT, 0, 0, 0}, d, d >= LEAST && d <= MOST);
            dueDefault(new int[] {LONG, 0, 0, 0}, d, true);
        }
    }

    private static void defaultsOfEnums() {
        begin("A default: d itself for ENUM");
        for (int set : new int[] {1, 2, 64, 128, 129, 126, 85, 254, 255}) {
            for (long d = -2; d < 10; d++) {
                dueDefault(new int[] {ENUM, 0, set, NONE}, d, d >= 0 && d < 8 && (set >> d & 1) == 1);
            }
            int symbol = Integer.numberOfTrailingZeros(set);
            dueDefault(new int[] {ENUM, 0, set, symbol}, symbol, true);
            dueDefault(new int[] {ENUM, 0, set, symbol}, symbol + WRAPS, false);
            dueDefault(new int[] {ENUM, 0, set, symbol}, symbol + 32, false);
            dueDefault(new int[] {ENUM, 0, set, symbol}, NONE, false);
        }
    }

    private static void defaultsOfNullAndArray() {
        begin("A default: no number at all for NULL, an empty array for ARRAY, where d is 0");
        for (long d : new long[] {-1, 0, 1, 3, WRAPS, Long.MIN_VALUE}) {
            dueDefault(new int[] {NULL, 0, 0, 0}, d, d == 0);
            dueDefault(new int[] {ARRAY, 0, INT, 0}, d, d == 0);
        }
        dueDefault(new int[] {RECORD, 0, 0, 0, ARRAY, 0, 4, 0}, 0, true);
        dueDefault(new int[] {RECORD, 0, 0, 0, ARRAY, 0, 4, 0}, 1, false);
    }

    private static void defaultsOfUnions() {
        begin("A default: 0, and then what d stands for in branch 0, for UNION");
        for (long d : new long[] {-1, 0, 1, 2, 3, MOST, MOST + 1L, WRAPS}) {
            dueDefault(new int[] {UNION, 0, NULL, INT}, d, d == 0);
            dueDefault(new int[] {UNION, 0, BOOLEAN, INT}, d, d == 0 || d == 1);
            dueDefault(new int[] {UNION, 0, INT, BOOLEAN}, d, d >= LEAST && d <= MOST);
            dueDefault(new int[] {UNION, 0, LONG, NULL}, d, true);
            dueDefault(new int[] {ENUM, 0, 0b110, NONE, UNION, 0, 4, LONG}, d, d == 1 || d == 2);
            dueDefault(new int[] {ARRAY, 0, LONG, 0, UNION, 0, 4, LONG}, d, d == 0);
        }
    }

    private static void recordsHaveNoDefault() {
        begin("A field whose schema is a RECORD, or a UNION whose branch 0 is one, has no default");
        for (long d : new long[] {-1, 0, 1}) {
            dueDefault(new int[] {RECORD, 0, 0, 0}, d, false);
            dueDefault(new int[] {RECORD, 0, 0, 0, UNION, 0, 4, NULL}, d, false);
            dueDefault(new int[] {RECORD, 0, 0, 0, RECORD, 1, 0, 0, UNION, 0, 4, 5}, d, false);
            dueDefault(new int[] {RECORD, 0, 0, 0, UNION, 0, NULL, 4}, d, d == 0);
        }
    }

    /** A record without fields, read under a schema of the same name that has just the field with the default. */
    private static void dueRead(int[] makes, long value, long... numbers) {
        SchemaTables x = plain();
        int schema = makeAll(x, makes);
        int writer = x.make(RECORD, 6, 0, 0);
        due("field", x.field(3, schema, true, value), 1);
        int reader = x.make(RECORD, 6, 0, 0);
        due("register", x.register(0, writer), 0);
        due("register", x.register(0, reader), 1);
        due("load", loaded(x, 0, writer), 1);
        dueRecord(x, 0, 0, reader, numbers);
    }

    private static void defaultsAreRead() {
        begin("A default stands for the value of the field");
        dueRead(new int[] {NULL, 0, 0, 0}, 0);
        for (long d = 0; d <= 1; d++) {
            dueRead(new int[] {BOOLEAN, 0, 0, 0}, d, d);
            dueRead(new int[] {UNION, 0, BOOLEAN, INT}, d, 0, d);
        }
        for (long d : new long[] {LEAST, -1, 0, 1, MOST}) {
            dueRead(new int[] {INT, 0, 0, 0}, d, d);
            dueRead(new int[] {UNION, 0, INT, LONG}, d, 0, d);
        }
        for (long d : new long[] {Long.MIN_VALUE, 0, WRAPS, BIG}) {
            dueRead(new int[] {LONG, 0, 0, 0}, d, d);
            dueRead(new int[] {UNION, 0, LONG, INT}, d, 0, d);
        }
        for (int d : new int[] {0, 7}) {
            dueRead(new int[] {ENUM, 0, 0b10000011, 1}, d, d);
            dueRead(new int[] {ENUM, 0, 0b10000011, 1, UNION, 0, 4, NULL}, d, 0, d);
        }
        dueRead(new int[] {ARRAY, 0, LONG, 0}, 0, 0);
        dueRead(new int[] {ARRAY, 0, LONG, 0, UNION, 0, 4, LONG}, 0, 0, 0);
        dueRead(new int[] {UNION, 0, NULL, LONG}, 0, 0);
    }

    /** The varint by the document's words, with numbers that can't wrap around. */
    private static int[] varint(long n) {
        BigInteger u = BigInteger.valueOf(n).shiftLeft(1);
        u = n < 0 ? u.not() : u;
        List<Integer> bytes = new ArrayList<>();
        while (u.bitLength() > 7) {
            bytes.add(u.intValue() & 127 | 128);
            u = u.shiftRight(7);
        }
        bytes.add(u.intValue());
        return bytes.stream().mapToInt(b -> b).toArray();
    }

    private static void dueVarint(long n, int length) {
        SchemaTables x = plain();
        x.register(0, LONG);
        due("the length of " + n, varint(n).length, length);
        due("stage of " + n, staged(x, LONG, n), length);
        due("load", x.load(0), 1);
        dueBytes(x, 2, 5, varint(n));
        dueRecord(x, 0, 0, LONG, n);
    }

    private static void varintsHaveAsFewBytesAsNeeded() {
        begin("The varint: seven bits of u a byte, as few bytes as u needs");
        dueVarint(0, 1);
        dueVarint(-1, 1);
        dueVarint(1, 1);
        for (int bytes = 1; bytes <= 9; bytes++) {
            long edge = 1L << 7 * bytes - 1;
            dueVarint(edge - 2, bytes);
            dueVarint(edge - 1, bytes);
            dueVarint(edge, bytes + 1);
            dueVarint(edge + 1, bytes + 1);
            dueVarint(-edge + 1, bytes);
            dueVarint(-edge, bytes);
            dueVarint(-edge - 1, bytes + 1);
            dueVarint(-edge - 2, bytes + 1);
        }
        for (long n : new long[] {BIG, BIG - 1, Long.MIN_VALUE, Long.MIN_VALUE + 1}) {
            dueVarint(n, 10);
        }
        SchemaTables x = plain();
        x.register(0, INT);
        staged(x, INT, MOST);
        staged(x, INT, LEAST);
        x.load(0);
        dueBytes(x, 2, 5, 254, 255, 255, 255, 15, 255, 255, 255, 255, 15);
        dueRecord(x, 0, 0, INT, MOST);
        dueRecord(x, 0, 1, INT, LEAST);
    }

    private static void enumsAreCodedByRank() {
        begin("CODED: ENUM as a varint how many of the schema's symbols are less than the symbol");
        for (int set = 1; set < 256; set++) {
            SchemaTables x = new SchemaTables();
            x.make(ENUM, 0, set, NONE);
            x.register(0, 0);
            for (int symbol = 0; symbol < 8; symbol++) {
                if ((set >> symbol & 1) == 1) {
                    due("stage", staged(x, 0, symbol), 1);
                }
            }
            int count = Integer.bitCount(set);
            due("load", x.load(0), count);
            int rank = 0;
            for (int symbol = 0; symbol < 8; symbol++) {
                if ((set >> symbol & 1) == 1) {
                    due("set " + set + ", symbol " + symbol, x.octet(2, 5 + rank), 2 * rank);
                    dueRecord(x, 0, rank, 0, symbol);
                    rank++;
                }
            }
        }
    }

    private static void arraysEndWithZero() {
        begin("CODED: ARRAY, if it has items, their count as a varint and the items, and then, always, a byte 0");
        SchemaTables x = plain();
        x.make(ARRAY, 0, BOOLEAN, 0);
        x.make(ARRAY, 0, 4, 0);
        x.make(ARRAY, 0, NULL, 0);
        x.register(0, 5);
        x.register(1, 6);
        due("none", staged(x, 5, 0), 1);
        due("one that has none", staged(x, 5, 1, 0), 3);
        due("one, two and three", staged(x, 5, 3, 1, 1, 2, 0, 1, 3, 1, 1, 1), 14);
        due("load", x.load(0), 3);
        dueBytes(x, 2, 4, 18, 0, 2, 0, 0, 6, 2, 1, 0, 4, 0, 1, 0, 6, 1, 1, 1, 0, 0);
        for (int count = 0; count <= 3; count++) {
            due("items without bytes", staged(x, 6, count), count == 0 ? 1 : 2);
        }
        due("load", x.load(1), 4);
        dueBytes(x, 3, 4, 7, 0, 2, 0, 4, 0, 6, 0);
        for (int count = 0; count <= 3; count++) {
            dueRecord(x, 1, count, 6, count);
        }
        dueRecord(x, 0, 0, 5, 0);
        dueRecord(x, 0, 1, 5, 1, 0);
        dueRecord(x, 0, 2, 5, 3, 1, 1, 2, 0, 1, 3, 1, 1, 1);
    }

    private static void unionsAndRecordsAreCodedInOrder() {
        begin("CODED: NULL none, UNION the branch as a varint, then the value, RECORD the fields one after the other");
        SchemaTables x = plain();
        x.make(UNION, 0, NULL, LONG);
        x.field(5, LONG, false, 0);
        x.field(0, 4, false, 0);
        x.field(3, NULL, false, 0);
        x.make(RECORD, 0, 0, 0);
        x.make(RECORD, 0, 0, 0);
        x.register(0, 5);
        x.register(1, 6);
        due("branch 0", staged(x, 5, 64, 0), 3);
        due("branch 1", staged(x, 5, -1, 1, -65), 4);
        due("load", x.load(0), 2);
        dueBytes(x, 2, 4, 7, 128, 1, 0, 1, 2, 129, 1);
        dueRecord(x, 0, 0, 5, 64, 0);
        dueRecord(x, 0, 1, 5, -1, 1, -65);
        due("no fields, no bytes", x.stage(6), 0);
        due("load", x.load(1), 1);
        dueBlock(x, 3, 83, 6, 1, 0, 0, 90);
        dueRecord(x, 1, 0, 6);
    }

    /** The plain schemas, 4: ENUM 1 of all symbols, 5: ARRAY of INT, 6: RECORD 1 with an INT field 0. */
    private static SchemaTables oneOfEachKind() {
        SchemaTables x = plain();
        x.make(ENUM, 1, 255, NONE);
        x.make(ARRAY, 0, INT, 0);
        x.field(0, INT, false, 0);
        x.make(RECORD, 1, 0, 0);
        return x;
    }

    private static final long[][] VALUES = {{}, {1}, {7}, {8}, {1}, {1, 9}, {10}};

    private static long[] behind(long first, long... rest) {
        long[] row = new long[rest.length + 1];
        row[0] = first;
        System.arraycopy(rest, 0, row, 1, rest.length);
        return row;
    }

    private static void resolvingNeedsFittingKinds() {
        begin("RESOLVING: w and r must be of the same kind, or w an INT and r a LONG; else a fault");
        for (int r = 0; r <= 6; r++) {
            for (int w = 0; w <= 6; w++) {
                SchemaTables x = oneOfEachKind();
                boolean fits = r == w || r == LONG && w == INT;
                due("canRead(" + r + ", " + w + ")", x.canRead(r, w), fits);
                due("register", x.register(0, r), 0);
                int writer = r == w ? w : x.make(UNION, 0, w, r);
                due("register", x.register(0, writer), r == w ? NONE : 1);
                staged(x, writer, r == w ? VALUES[w] : behind(0, VALUES[w]));
                due("load", x.load(0), 1);
                if (fits) {
                    dueRecord(x, 0, 0, r, VALUES[w]);
                } else {
                    due("read of kind " + w + " under " + r, x.read(0, 0, r), FAULT);
                    dueNumbers(x);
                }
            }
        }
    }

    private static void resolvingTakesTheFirstMatchingBranch() {
        begin("RESOLVING: the first branch of r that MATCHES w; a fault when neither matches");
        for (int w = 0; w <= 6; w++) {
            for (int a = 0; a <= 6; a++) {
                for (int b = 0; b <= 6; b++) {
                    if (a != b) {
                        dueBranch(w, a, b);
                    }
                }
            }
            if (w != INT && w != LONG) {
                dueNoBranch(w);
            }
        }
    }

    private static void dueBranch(int w, int a, int b) {
        SchemaTables x = oneOfEachKind();
        int reader = x.make(UNION, 0, a, b);
        int branch = a == w || a == LONG && w == INT ? 0 : b == w || b == LONG && w == INT ? 1 : NONE;
        due("canRead of a UNION", x.canRead(reader, w), branch != NONE);
        if (branch != NONE) {
            x.register(0, w);
            due("register", x.register(0, reader), 1);
            loaded(x, 0, w, VALUES[w]);
            dueRecord(x, 0, 0, reader, behind(branch, VALUES[w]));
        }
    }

    /** A reader of INT and LONG, and a writer of LONG, which reads both of them, and of what matches neither. */
    private static void dueNoBranch(int w) {
        for (int order = 0; order < 2; order++) {
            SchemaTables x = oneOfEachKind();
            int reader = x.make(UNION, 0, order == 0 ? INT : LONG, order == 0 ? LONG : INT);
            int writer = x.make(UNION, 0, w, LONG);
            x.register(0, reader);
            due("register", x.register(0, writer), 1);
            staged(x, writer, behind(0, VALUES[w]));
            staged(x, writer, 1, 5);
            x.load(0);
            due("read of kind " + w + " under INT and LONG", x.read(0, 0, reader), FAULT);
            dueNumbers(x);
            dueRecord(x, 0, 1, reader, 1 - order, 5);
        }
    }

    private static void resolvingTakesTheWritersBranch() {
        begin("RESOLVING: if w is a UNION, its value's branch is taken as w");
        SchemaTables x = plain();
        due("4: INT or NULL", x.make(UNION, 0, INT, NULL), 4);
        due("5: NULL or LONG", x.make(UNION, 0, NULL, LONG), 5);
        x.register(0, 4);
        x.register(0, 5);
        staged(x, 4, 0, 6);
        staged(x, 4, 1);
        x.load(0);
        staged(x, 5, 0);
        staged(x, 5, 1, 7);
        x.load(0);
        dueRecord(x, 0, 0, 5, 1, 6);
        dueRecord(x, 0, 1, 5, 0);
        dueRecord(x, 0, 2, 4, 1);
        due("a LONG, and neither is one", x.read(0, 3, 4), FAULT);
        dueRecord(x, 0, 0, 4, 0, 6);
        dueRecord(x, 0, 3, 5, 1, 7);
    }

    private static void resolvingEnums() {
        begin("RESOLVING: ENUM: the symbol if r has it, else r's default if there is one, else a fault");
        for (int set = 1; set < 256; set += 7) {
            SchemaTables x = new SchemaTables();
            int highest = 31 - Integer.numberOfLeadingZeros(set);
            x.make(ENUM, 2, set, NONE);
            x.make(ENUM, 2, set, highest);
            x.make(ENUM, 2, 255, NONE);
            x.register(0, 0);
            due("register", x.register(0, 1), 1);
            due("register", x.register(0, 2), 2);
            for (int symbol = 0; symbol < 8; symbol++) {
                staged(x, 2, symbol);
            }
            x.load(0);
            for (int symbol = 0; symbol < 8; symbol++) {
                boolean has = (set >> symbol & 1) == 1;
                due("without a default", x.read(0, symbol, 0), has ? 1 : FAULT);
                dueNumbers(x, has ? new long[] {symbol} : new long[0]);
                dueRecord(x, 0, symbol, 1, has ? symbol : highest);
                dueRecord(x, 0, symbol, 2, symbol);
            }
        }
        begin("RESOLVING: ENUM: a fault if the names differ");
        SchemaTables x = plain();
        x.make(ENUM, 1, 3, 0);
        x.make(ENUM, 2, 3, 0);
        x.make(UNION, 0, 5, 4);
        x.register(0, 4);
        due("register", x.register(0, 6), 1);
        staged(x, 6, 0, 1);
        staged(x, 6, 1, 1);
        x.load(0);
        due("another name, though r has the symbol and a default", x.read(0, 0, 4), FAULT);
        dueRecord(x, 0, 1, 4, 1);
    }

    private static void resolvingArrays() {
        begin("RESOLVING: ARRAY: the count, and each item resolved");
        SchemaTables x = plain();
        due("4: ARRAY of INT", x.make(ARRAY, 0, INT, 0), 4);
        due("5: NULL or LONG", x.make(UNION, 0, NULL, LONG), 5);
        due("6: ARRAY of 5", x.make(ARRAY, 0, 5, 0), 6);
        x.register(0, 4);
        x.register(0, 6);
        long[][] rows = {{0}, {1, 5}, {2, 5, -6}, {3, 5, -6, MOST}};
        long[][] read = {{0}, {1, 1, 5}, {2, 1, 5, 1, -6}, {3, 1, 5, 1, -6, 1, MOST}};
        for (int i = 0; i < 4; i++) {
            staged(x, 4, rows[i]);
        }
        x.load(0);
        for (int i = 0; i < 4; i++) {
            dueRecord(x, 0, i, 6, read[i]);
            dueRecord(x, 0, i, 4, rows[i]);
        }
    }

    private static void resolvingRecords() {
        begin("RESOLVING: RECORD: w's field of that name; what remains of w is left out");
        long[][] parts = {{2, 70, 71}, {5}, {1, 72}};
        for (int name = 0; name < 3; name++) {
            SchemaTables x = threeFields();
            x.field(name, name == 1 ? LONG : 4, false, 0);
            due("one of the fields", x.make(RECORD, 3, 0, 0), 6);
            due("register", x.register(0, 6), 1);
            dueRecord(x, 0, 0, 6, parts[name]);
        }
        SchemaTables x = threeFields();
        due("none of the fields", x.make(RECORD, 3, 0, 0), 6);
        due("register", x.register(0, 6), 1);
        dueRecord(x, 0, 0, 6);
        begin("RESOLVING: RECORD: else the default, if r's field has one");
        x = threeFields();
        x.field(2, 4, true, 0);
        x.field(7, BOOLEAN, true, 1);
        x.field(0, 4, true, 0);
        due("two of the fields and a default", x.make(RECORD, 3, 0, 0), 6);
        due("register", x.register(0, 6), 1);
        dueRecord(x, 0, 0, 6, 1, 72, 1, 2, 70, 71);
        begin("RESOLVING: RECORD: else a fault");
        dueFieldsOfOneWriter();
    }

    /** Subject 0 has a record of schema 5, RECORD 3 with the fields 0: ARRAY of LONG, 1: INT, 2: ARRAY of LONG. */
    private static SchemaTables threeFields() {
        SchemaTables x = plain();
        x.make(ARRAY, 0, LONG, 0);
        x.field(0, 4, false, 0);
        x.field(1, INT, false, 0);
        x.field(2, 4, false, 0);
        due("the writer's", x.make(RECORD, 3, 0, 0), 5);
        x.register(0, 5);
        due("load", loaded(x, 0, 5, 2, 70, 71, 5, 1, 72), 1);
        dueRecord(x, 0, 0, 5, 2, 70, 71, 5, 1, 72);
        return x;
    }

    private static void dueFieldsOfOneWriter() {
        SchemaTables x = plain();
        x.field(4, INT, false, 0);
        x.field(1, INT, false, 0);
        due("4: needs two", x.make(RECORD, 3, 0, 0), 4);
        x.field(1, LONG, false, 0);
        due("5: needs one of them", x.make(RECORD, 3, 0, 0), 5);
        x.field(0, INT, true, -8);
        x.field(1, LONG, false, 0);
        x.field(4, LONG, true, 9);
        due("6: has a default of two", x.make(RECORD, 3, 0, 0), 6);
        x.register(0, 4);
        x.register(0, 5);
        due("register", x.register(0, 6), 2);
        loaded(x, 0, 4, 11, 12);
        loaded(x, 0, 5, 13);
        dueRecord(x, 0, 0, 4, 11, 12);
        dueRecord(x, 0, 0, 5, 12);
        dueRecord(x, 0, 0, 6, -8, 12, 11);
        due("no field 4, no default", x.read(0, 1, 4), FAULT);
        dueRecord(x, 0, 1, 5, 13);
        dueRecord(x, 0, 1, 6, -8, 13, 9);
        begin("RESOLVING: RECORD: a fault if the names differ");
        x = plain();
        x.make(RECORD, 3, 0, 0);
        x.make(RECORD, 4, 0, 0);
        x.make(UNION, 0, 4, 5);
        x.register(0, 5);
        x.register(0, 6);
        staged(x, 6, 0);
        staged(x, 6, 1);
        x.load(0);
        due("another name", x.read(0, 0, 5), FAULT);
        dueRecord(x, 0, 1, 5);
    }

    private static void whatRemainsIsLeftOut() {
        begin("RESOLVING: RECORD: what remains of w is left out, whatever its kind");
        dueLeftOut(new int[] {NULL, 0, 0, 0});
        dueLeftOut(new int[] {BOOLEAN, 0, 0, 0}, 1);
        dueLeftOut(new int[] {INT, 0, 0, 0}, LEAST);
        dueLeftOut(new int[] {LONG, 0, 0, 0}, BIG);
        dueLeftOut(new int[] {ENUM, 0, 0b1100, NONE}, 3);
        dueLeftOut(new int[] {ARRAY, 0, LONG, 0}, 0);
        dueLeftOut(new int[] {ARRAY, 0, LONG, 0}, 3, 7, BIG, 8);
        dueLeftOut(new int[] {ARRAY, 0, NULL, 0}, 3);
        dueLeftOut(new int[] {ARRAY, 0, LONG, 0, ARRAY, 0, 4, 0}, 2, 0, 2, 7, 8);
        dueLeftOut(new int[] {UNION, 0, NULL, LONG}, 0);
        dueLeftOut(new int[] {UNION, 0, NULL, LONG}, 1, 7);
        dueLeftOut(new int[] {ARRAY, 0, LONG, 0, UNION, 0, 4, LONG}, 0, 2, 7, 8);
        dueLeftOut(new int[] {RECORD, 0, 0, 0});
        dueLeftOut(new int[] {RECORD, 0, 0, 0, ARRAY, 0, 4, 0}, 3);
    }

    /** The writer's record has a field of the schema, alone and in a RECORD, before each of two INTs. */
    private static void dueLeftOut(int[] makes, long... row) {
        SchemaTables x = plain();
        int schema = makeAll(x, makes);
        x.field(0, schema, false, 0);
        x.field(1, INT, false, 0);
        x.field(2, schema, false, 0);
        int inner = x.make(RECORD, 1, 0, 0);
        x.field(4, inner, false, 0);
        x.field(5, INT, false, 0);
        x.field(6, inner, false, 0);
        int writer = x.make(RECORD, 2, 0, 0);
        x.field(1, LONG, false, 0);
        int innerReader = x.make(RECORD, 1, 0, 0);
        x.field(6, innerReader, false, 0);
        x.field(5, LONG, false, 0);
        int reader = x.make(RECORD, 2, 0, 0);
        x.register(0, writer);
        due("register", x.register(0, reader), 1);
        giveAll(x, row).give(-5);
        giveAll(x, row).give(100);
        giveAll(x, row).give(200);
        giveAll(x, row);
        due("stage", x.stage(writer) > 0, true);
        due("load", x.load(0), 1);
        dueRecord(x, 0, 0, reader, 200, 100);
    }

    private static void faultOfAPartIsTheWholes() {
        begin("If a part gives a fault, the whole does");
        for (int bad = 0; bad <= 3; bad++) {
            SchemaTables x = plain();
            due("4: INT or BOOLEAN", x.make(UNION, 0, INT, BOOLEAN), 4);
            due("5: ARRAY of INT", x.make(ARRAY, 0, INT, 0), 5);
            due("6: ARRAY of 4", x.make(ARRAY, 0, 4, 0), 6);
            for (int i = 0; i < 3; i++) {
                x.field(i, INT, false, 0);
            }
            due("7: RECORD of INTs", x.make(RECORD, 0, 0, 0), 7);
            for (int i = 0; i < 3; i++) {
                x.field(i, 4, false, 0);
            }
            due("8: RECORD of 4s", x.make(RECORD, 0, 0, 0), 8);
            x.register(0, 5);
            due("register", x.register(0, 6), 1);
            x.register(1, 7);
            due("register", x.register(1, 8), 1);
            long[] parts = new long[6];
            for (int i = 0; i < 3; i++) {
                parts[2 * i] = i == bad ? 1 : 0;
                parts[2 * i + 1] = 1;
            }
            loaded(x, 0, 6, behind(3, parts));
            loaded(x, 1, 8, parts);
            due("ARRAY, part " + bad, x.read(0, 0, 5), bad < 3 ? FAULT : 4);
            dueNumbers(x, bad < 3 ? new long[0] : new long[] {3, 1, 1, 1});
            due("RECORD, part " + bad, x.read(1, 0, 7), bad < 3 ? FAULT : 3);
            dueNumbers(x, bad < 3 ? new long[0] : new long[] {1, 1, 1});
        }
    }

    private static void arraysMatchByTheirItems() {
        begin("MATCHES: if they are ARRAYs, their items match in turn");
        SchemaTables x = plain();
        due("4: ARRAY of INT", x.make(ARRAY, 0, INT, 0), 4);
        due("5: ARRAY of LONG", x.make(ARRAY, 0, LONG, 0), 5);
        due("6: 4 or NULL", x.make(UNION, 0, 4, NULL), 6);
        due("7: 5 or NULL", x.make(UNION, 0, 5, NULL), 7);
        x.register(0, 6);
        due("register", x.register(0, 7), 1);
        x.register(1, 4);
        due("register", x.register(1, 5), 1);
        staged(x, 7, 0, 0);
        x.load(0);
        loaded(x, 1, 5, 0);
        due("an ARRAY of LONG without items matches no ARRAY of INT", x.read(0, 0, 6), FAULT);
        dueRecord(x, 0, 0, 7, 0, 0);
        dueRecord(x, 1, 0, 4, 0);
        begin("MATCHES: when one of them is a UNION");
        due("8: LONG or INT", x.make(UNION, 0, LONG, INT), 8);
        due("9: ARRAY of 8", x.make(ARRAY, 0, 8, 0), 9);
        due("10: NULL or 9", x.make(UNION, 0, NULL, 9), 10);
        x.register(2, 6);
        due("register", x.register(2, 10), 1);
        staged(x, 10, 1, 0);
        staged(x, 10, 1, 1, 1, 7);
        staged(x, 10, 1, 1, 0, 7);
        x.load(2);
        dueRecord(x, 2, 0, 6, 0, 0);
        dueRecord(x, 2, 1, 6, 0, 1, 7);
        due("matches, but its item is a LONG", x.read(2, 2, 6), FAULT);
        due("11: ARRAY of 4", x.make(ARRAY, 0, 4, 0), 11);
        due("12: ARRAY of 5", x.make(ARRAY, 0, 5, 0), 12);
        due("13: 12 or NULL", x.make(UNION, 0, 12, NULL), 13);
        due("14: 11 or NULL", x.make(UNION, 0, 11, NULL), 14);
        due("canRead(13, 11)", x.canRead(13, 11), true);
        due("canRead(14, 12)", x.canRead(14, 12), false);
        due("canRead(14, 4)", x.canRead(14, 4), false);
    }

    private static void unionsReadAndAreRead() {
        begin("CAN READ: if w is a UNION, when r can read both its branches; if r is one, a branch of it");
        for (int a = 0; a <= 6; a++) {
            for (int b = 0; b <= 6; b++) {
                SchemaTables x = oneOfEachKind();
                int union = x.make(UNION, 0, a, b);
                due("make", union, a == b ? NONE : 7);
                for (int s = 0; s <= 6 && a != b; s++) {
                    boolean readsA = s == a || s == LONG && a == INT;
                    boolean readsB = s == b || s == LONG && b == INT;
                    due(s + " can read " + a + " or " + b, x.canRead(s, union), readsA && readsB);
                    boolean isRead = s == a || s == b || s == INT && (a == LONG || b == LONG);
                    due(a + " or " + b + " can read " + s, x.canRead(union, s), isRead);
                }
                due("itself", x.canRead(union, union), a != b);
            }
        }
        begin("CAN READ: the first such can read w");
        SchemaTables x = plain();
        x.make(ENUM, 1, 0b11, NONE);
        x.make(ENUM, 1, 0b1, NONE);
        due("6: 5 or NULL", x.make(UNION, 0, 5, NULL), 6);
        due("7: NULL or 5", x.make(UNION, 0, NULL, 5), 7);
        due("it matches, but has not all symbols", x.canRead(6, 4), false);
        due("it matches, but has not all symbols", x.canRead(7, 4), false);
        due("it has them", x.canRead(6, 5), true);
        due("it has them", x.canRead(7, 5), true);
    }

    private static void enumsReadBySymbols() {
        begin("CAN READ: for ENUMs, the names are the same, and r has a default or all symbols of w");
        for (int r = 1; r < 8; r++) {
            for (int w = 1; w < 8; w++) {
                SchemaTables x = new SchemaTables();
                int highest = r > 3 ? 2 : r > 1 ? 1 : 0;
                x.make(ENUM, 0, w, NONE);
                x.make(ENUM, 0, r, NONE);
                x.make(ENUM, 0, r, highest);
                x.make(ENUM, 1, r, highest);
                due("set " + r + " reads " + w, x.canRead(1, 0), (r | w) == r);
                due("with a default", x.canRead(2, 0), true);
                due("with another name", x.canRead(3, 0), false);
                due("the default of w is nothing to r", x.canRead(0, 2), (r | w) == w);
            }
        }
    }

    private static void recordsReadByFields() {
        begin("CAN READ: for RECORDs, each field of r, w has and r's can read it, or w has none and r's has a default");
        for (int has = 0; has < 2; has++) {
            for (int schema = NULL; schema <= LONG; schema++) {
                SchemaTables x = plain();
                due("4: none", x.make(RECORD, 0, 0, 0), 4);
                x.field(3, INT, false, 0);
                due("5: an INT", x.make(RECORD, 0, 0, 0), 5);
                x.field(3, schema, has == 1, 0);
                due("6", x.make(RECORD, 0, 0, 0), 6);
                x.field(5, BOOLEAN, true, 0);
                x.field(3, schema, has == 1, 0);
                due("7", x.make(RECORD, 0, 0, 0), 7);
                x.field(3, schema, has == 1, 0);
                due("8: another name", x.make(RECORD, 1, 0, 0), 8);
                boolean reads = schema == INT || schema == LONG;
                for (int r = 6; r <= 7; r++) {
                    due(r + " reads 4", x.canRead(r, 4), has == 1);
                    due(r + " reads 5", x.canRead(r, 5), reads);
                    due("4 reads " + r, x.canRead(4, r), true);
                    due("5 reads " + r, x.canRead(5, r), schema == INT);
                }
                due("another name", x.canRead(8, 5), false);
                due("another name", x.canRead(4, 8), false);
            }
        }
    }
}
