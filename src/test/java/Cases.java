/** What the written tests have in common: short ways to bring an object into a state, and looks at it. */
abstract class Cases {
    static final int NONE = SchemaTables.NONE;
    static final int FAULT = SchemaTables.FAULT;
    static final int FULL = SchemaTables.FULL;
    static final int DOWN = SchemaTables.DOWN;

    static final int NULL = 0;
    static final int BOOLEAN = 1;
    static final int INT = 2;
    static final int LONG = 3;
    static final int ENUM = 4;
    static final int ARRAY = 5;
    static final int UNION = 6;
    static final int RECORD = 7;

    static final int MOST = Integer.MAX_VALUE;
    static final int LEAST = Integer.MIN_VALUE;
    /** A number whose varint has ten bytes. */
    static final long BIG = Long.MAX_VALUE;
    /** A number that is 0 if its upper half is lost. */
    static final long WRAPS = 1L << 32;
    /** The schema ARRAY of LONG of an object that longs() made. */
    static final int LONGS = 4;

    static final Check CHECK = new Check();

    static void begin(String name) {
        CHECK.begin(name);
    }

    static void due(String call, long got, long want) {
        CHECK.due(call, got, want);
    }

    static void due(String call, boolean got, boolean want) {
        CHECK.due(call, got, want);
    }

    /** An object with the four plain schemas: 0 NULL, 1 BOOLEAN, 2 INT, 3 LONG. */
    static SchemaTables plain() {
        SchemaTables x = new SchemaTables();
        for (int kind = NULL; kind <= LONG; kind++) {
            x.make(kind, 0, 0, 0);
        }
        return x;
    }

    /** The plain schemas, and 4: ARRAY of LONG, which subject 0 has. */
    static SchemaTables longs() {
        SchemaTables x = plain();
        x.make(ARRAY, 0, LONG, 0);
        x.register(0, LONGS);
        return x;
    }

    /** Makes schemas, four numbers each; answers the last one's number. */
    static int makeAll(SchemaTables x, int... makes) {
        int last = NONE;
        for (int i = 0; i < makes.length; i += 4) {
            last = x.make(makes[i], makes[i + 1], makes[i + 2], makes[i + 3]);
        }
        return last;
    }

    static SchemaTables giveAll(SchemaTables x, long... numbers) {
        for (long n : numbers) {
            x.give(n);
        }
        return x;
    }

    static int staged(SchemaTables x, int schema, long... numbers) {
        return giveAll(x, numbers).stage(schema);
    }

    static int loaded(SchemaTables x, int subject, int schema, long... numbers) {
        staged(x, schema, numbers);
        return x.load(subject);
    }

    /** Stops the machine by a registration under a subject that has none yet. */
    static void goDown(SchemaTables x) {
        x.limit(0);
        int unused = 0;
        while (unused < 2 && x.versions(unused) > 0) {
            unused++;
        }
        due("a machine that goes down", x.register(unused, 0), DOWN);
    }

    /** The least number, not below 0, whose varint has so many bytes, 1 to 10. */
    static long numberOf(int bytes) {
        return bytes == 1 ? 0 : 1L << 7 * bytes - 8;
    }

    /** An ARRAY of LONG that has so many bytes, coded: 1, or 3 to 32. */
    static long[] arrayOf(int bytes) {
        int items = (bytes + 7) / 10;
        long[] row = new long[items + 1];
        row[0] = items;
        int left = bytes - 2;
        for (int i = 1; i <= items; i++) {
            int here = Math.min(10, left - (items - i));
            row[i] = numberOf(here);
            left -= here;
        }
        return row;
    }

    /** Stages as few ARRAYs of LONG as have so many bytes in all; answers how many these are. */
    static int stageBytes(SchemaTables x, int bytes) {
        int left = bytes;
        int records = 0;
        while (left > 0) {
            int here = left == 2 ? 1 : Math.min(32, left);
            due("stage of " + here + " bytes", staged(x, LONGS, arrayOf(here)), here);
            left -= here;
            records++;
        }
        return records;
    }

    static void dueBytes(SchemaTables x, int block, int from, int... octets) {
        for (int i = 0; i < octets.length; i++) {
            int k = from + i;
            due("octet(" + (block + k / 32) + ", " + k % 32 + ")", x.octet(block + k / 32, k % 32), octets[i]);
        }
    }

    /** The block has these bytes, and zeros behind them. */
    static void dueBlock(SchemaTables x, int block, int... octets) {
        dueBytes(x, block, 0, java.util.Arrays.copyOf(octets, 32));
    }

    static void dueNumbers(SchemaTables x, long... numbers) {
        for (int i = 0; i < numbers.length; i++) {
            due("number(" + i + ")", x.number(i), numbers[i]);
        }
        due("number(" + numbers.length + ")", x.number(numbers.length), 0);
    }

    static void dueRecord(SchemaTables x, int subject, int k, int schema, long... numbers) {
        due("read(" + subject + ", " + k + ", " + schema + ")", x.read(subject, k, schema), numbers.length);
        dueNumbers(x, numbers);
    }
}
