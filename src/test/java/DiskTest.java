/**
 * The sentences of the document's section "Terms" on the disk, its files, the subjects and a machine that goes down:
 * for each that names a boundary, a test of its own, with what lies inside the boundary, at it, and outside it.
 */
public final class DiskTest extends Cases {
    private static final int[] NO_SUBJECTS = {-1, -2, 3, 4, 255, 256, LEAST, MOST};

    public static void main(String[] args) {
        diskIsAllZeroAtFirst();
        blocksAndBytesHaveBounds();
        blockWritesAreWholeOrNone();
        manifestHasUpToNineFiles();
        registryHasUpToTenEntries();
        filesOfEachLength();
        joinedFilesOfEachLength();
        filesOfEachCount();
        sumIsMod251();
        fileLiesInTheFirstHoleThatIsEnough();
        holesThatMeetAreOne();
        fileMayEndAtTheLastBlock();
        fileThatIsNotCommittedIsFree();
        fileStandsBehindAllOthers();
        subjectsAre0To2();
        recordsAreInTheManifestsOrder();
        limitCountsBlockWrites();
        limitThatIsUsedUpGoesOn();
        machineThatGoesDownLosesWhatIsNotOnTheDisk();
        whileDownCallsAreRefused();
        whileDownOthersGoOn();
        reasonsAreTestedInOrder();
        CHECK.end();
    }

    private static void diskIsAllZeroAtFirst() {
        begin("BLOCKS 0 .. 39 of 32 bytes, all 0 at first");
        for (int block = 0; block < 40; block++) {
            SchemaTables x = new SchemaTables();
            dueBlock(x, block);
        }
    }

    private static void blocksAndBytesHaveBounds() {
        begin("BLOCKS 0 .. 39 of 32 bytes: there are no others");
        SchemaTables x = new SchemaTables();
        int[] blocks = {0, 1, 38, 39};
        int[] noBlocks = {-1, -2, 40, 41, 1 << 27, LEAST, MOST};
        int[] bytes = {0, 1, 30, 31};
        int[] noBytes = {-1, -32, 32, 33, 64, LEAST, MOST};
        for (int block : blocks) {
            for (int k : bytes) {
                due("octet(" + block + ", " + k + ")", x.octet(block, k), 0);
            }
            for (int k : noBytes) {
                due("octet(" + block + ", " + k + ")", x.octet(block, k), NONE);
            }
        }
        for (int block : noBlocks) {
            for (int k : bytes) {
                due("octet(" + block + ", " + k + ")", x.octet(block, k), NONE);
            }
            for (int k : noBytes) {
                due("octet(" + block + ", " + k + ")", x.octet(block, k), NONE);
            }
        }
    }

    /** Blocks 2 to 6 are free, but have the bytes of a file that was not committed. */
    private static SchemaTables withOldBytes() {
        SchemaTables x = longs();
        for (int i = 0; i < 4; i++) {
            staged(x, LONGS, 3, -BIG, -BIG, -BIG);
        }
        staged(x, LONGS, 2, -BIG, -BIG);
        x.limit(5);
        due("five blocks, but no manifest", x.load(0), DOWN);
        due("restart", x.restart(), true);
        return x;
    }

    private static int[] octets(SchemaTables x, int first, int blocks) {
        int[] octets = new int[32 * blocks];
        for (int i = 0; i < octets.length; i++) {
            octets[i] = x.octet(first + i / 32, i % 32);
        }
        return octets;
    }

    private static void blockWritesAreWholeOrNone() {
        begin("a block write is made whole or not at all; a file is written from its first block on, then the manifest");
        int[] before = octets(withOldBytes(), 2, 5);
        SchemaTables whole = withOldBytes();
        stageBytes(whole, 150);
        whole.load(0);
        int[] after = octets(whole, 2, 5);
        for (int made = 0; made <= 7; made++) {
            SchemaTables x = withOldBytes();
            int writes = x.writes();
            stageBytes(x, 150);
            x.limit(made);
            due("load, " + made + " writes", x.load(0), made < 6 ? DOWN : 5);
            due("writes()", x.writes(), writes + Math.min(made, 6));
            for (int i = 0; i < 160; i++) {
                due("byte " + i, x.octet(2 + i / 32, i % 32), i / 32 < made ? after[i] : before[i]);
            }
            if (made < 6) {
                dueBlock(x, 0);
            } else {
                dueBlock(x, 0, 1, 0, 2, 5);
            }
            dueBlock(x, 1, 1, 0, LONGS);
            dueBlock(x, 7);
        }
    }

    private static void manifestHasUpToNineFiles() {
        begin("the MANIFEST: the number of files, then for each file three bytes; zeros behind");
        SchemaTables x = plain();
        int[] due = new int[32];
        for (int subject = 0; subject < 3; subject++) {
            x.register(subject, INT);
        }
        dueBlock(x, 0);
        for (int i = 0; i < 9; i++) {
            int subject = (i * 2 + 1) % 3;
            due("load", loaded(x, subject, INT, i), i / 3 + 1);
            due[0] = i + 1;
            due[1 + 3 * i] = subject;
            due[2 + 3 * i] = 2 + i;
            due[3 + 3 * i] = 1;
            dueBlock(x, 0, due);
        }
        due("the tenth", loaded(x, 0, INT, 9), FULL);
        dueBlock(x, 0, due);
    }

    private static void registryHasUpToTenEntries() {
        begin("the REGISTRY: the number of registrations, then for each two bytes; zeros behind");
        SchemaTables x = plain();
        for (int i = 0; i < 8; i++) {
            x.make(INT, 0, 0, 0);
        }
        int[] due = new int[32];
        dueBlock(x, 1);
        for (int i = 0; i < 10; i++) {
            int subject = 2 - i % 3;
            int schema = 11 - i / 3;
            due("register", x.register(subject, schema), i / 3);
            due[0] = i + 1;
            due[1 + 2 * i] = subject;
            due[2 + 2 * i] = schema;
            dueBlock(x, 1, due);
        }
        due("the eleventh", x.register(0, 4), NONE);
        dueBlock(x, 1, due);
        dueBlock(x, 0);
    }

    private static void filesOfEachLength() {
        begin("A FILE: 83, schema, records, bytes, the records, the sum, zeros to the end of the last block");
        for (int bytes = 1; bytes <= 150; bytes++) {
            SchemaTables x = withOldBytes();
            int records = stageBytes(x, bytes);
            due("load", x.load(0), records);
            int blocks = (bytes + 6 + 31) / 32;
            dueBlock(x, 0, 1, 0, 2, blocks);
            dueFile(x, 2, records, bytes);
            if (blocks < 5) {
                due("the block behind it is as it was", x.octet(2 + blocks, 14), 255);
            }
            due("writes()", x.writes(), 1 + 5 + blocks + 1);
        }
    }

    /** The file that begins with a block has so many records and bytes of them, the sum, and zeros behind it. */
    private static void dueFile(SchemaTables x, int block, int records, int bytes) {
        dueBytes(x, block, 0, 83, LONGS, records, 0, bytes);
        int[] octets = octets(x, block, (bytes + 6 + 31) / 32);
        int sum = 0;
        for (int i = 0; i < 5 + bytes; i++) {
            sum += octets[i];
        }
        due("the sum of a file with " + bytes + " bytes", octets[5 + bytes], sum % 251);
        for (int i = 6 + bytes; i < octets.length; i++) {
            due("behind a file with " + bytes + " bytes", octets[i], 0);
        }
    }

    private static void joinedFilesOfEachLength() {
        begin("A FILE: as it is when two are joined");
        for (int bytes = 2; bytes <= 200; bytes++) {
            SchemaTables x = longs();
            int first = bytes <= 75 ? 1 : bytes <= 150 ? bytes / 2 : 150;
            int records = stageBytes(x, first);
            x.load(0);
            records += stageBytes(x, bytes - first);
            due("load", x.load(0), records);
            int place = 2 + x.octet(0, 3) + x.octet(0, 6);
            due("compact", x.compact(0), 1);
            dueBlock(x, 0, 1, 0, place, (bytes + 6 + 31) / 32);
            dueFile(x, place, records, bytes);
            dueRecord(x, 0, records - 1, LONGS, lastOf(bytes - first));
        }
    }

    /** The last of the ARRAYs that stageBytes stages. */
    private static long[] lastOf(int bytes) {
        int last = (bytes - 1) % 32 + 1;
        return arrayOf(last == 2 ? 1 : last);
    }

    private static void filesOfEachCount() {
        begin("A FILE: the number of records");
        for (int records = 1; records <= 10; records++) {
            SchemaTables x = plain();
            x.register(1, NULL);
            x.register(2, BOOLEAN);
            for (int i = 0; i < records; i++) {
                due("stage", x.stage(NULL), 0);
            }
            due("load", x.load(1), records);
            dueBlock(x, 2, 83, NULL, records, 0, 0, 83 + records);
            for (int i = 0; i < records; i++) {
                due("stage", staged(x, BOOLEAN, i % 2), 1);
            }
            due("load", x.load(2), records);
            dueBytes(x, 3, 0, 83, BOOLEAN, records, 0, records);
            due("the sum", x.octet(3, 5 + records), 84 + 2 * records + records / 2);
            dueRecord(x, 1, records - 1, NULL);
            due("one too far", x.read(1, records, NULL), NONE);
            dueRecord(x, 2, records - 1, BOOLEAN, (records - 1) % 2);
            due("one too far", x.read(2, records, BOOLEAN), NONE);
        }
    }

    /** Loads records of one byte each, whose file has the sum before it is taken mod 251. */
    private static void dueSum(int sum, int records) {
        SchemaTables x = new SchemaTables();
        x.make(INT, 0, 0, 0);
        x.register(0, 0);
        int left = sum - 83 - 2 * records;
        for (int i = records; i > 0; i--) {
            int octet = left / i;
            left -= octet;
            due("stage", staged(x, 0, octet % 2 == 0 ? octet / 2 : -(octet / 2) - 1), 1);
        }
        due("load", x.load(0), records);
        due("the sum " + sum, x.octet(2, 5 + records), sum % 251);
        due("behind it", x.octet(2, 6 + records), 0);
    }

    private static void sumIsMod251() {
        begin("A FILE: the sum of all bytes of the file before it mod 251");
        for (int d = -3; d <= 7; d++) {
            dueSum(251 + d, 2);
            dueSum(502 + d, 5);
            dueSum(753 + d, 7);
            dueSum(1004 + d, 9);
        }
        dueSum(85, 1);
        dueSum(103, 10);
        dueSum(1373, 10);
    }

    /** How many bytes of records just fill so many blocks of a file. */
    private static int bytesOf(int blocks) {
        return Math.min(150, 32 * blocks - 6);
    }

    private static void loadBlocks(SchemaTables x, int subject, int blocks) {
        stageBytes(x, bytesOf(blocks));
        due("load of " + blocks + " blocks", x.load(subject) > 0, true);
    }

    /** Two holes of so many blocks from 2 on, with a file of one block behind each; then a file to block 39, or near it. */
    private static SchemaTables holes(int first, int second) {
        SchemaTables x = longs();
        x.register(1, LONGS);
        loadBlocks(x, 0, first);
        loadBlocks(x, 1, 1);
        loadBlocks(x, 0, second);
        loadBlocks(x, 1, 1);
        due("compact", x.compact(0), 1);
        due("the joined file lies behind them", x.octet(0, 2), 4 + first + second);
        return x;
    }

    private static void fileLiesInTheFirstHoleThatIsEnough() {
        begin("a file lies in the first free blocks that follow one another and are enough");
        for (int first = 1; first <= 3; first++) {
            for (int second = 1; second <= 3; second++) {
                for (int blocks = 1; blocks <= 5; blocks++) {
                    SchemaTables x = holes(first, second);
                    int joined = x.octet(0, 3);
                    loadBlocks(x, 1, blocks);
                    int place = blocks <= first ? 2 : blocks <= second ? 3 + first : 4 + first + second + joined;
                    dueBytes(x, 0, 10, 1, place, blocks, 0);
                    due("its first byte", x.octet(place, 0), 83);
                }
            }
        }
        SchemaTables x = longs();
        loadBlocks(x, 0, 1);
        dueBlock(x, 0, 1, 0, 2, 1);
    }

    private static void holesThatMeetAreOne() {
        begin("a file lies in the first free blocks that follow one another: of two files that lay side by side");
        for (int blocks = 1; blocks <= 5; blocks++) {
            SchemaTables x = longs();
            loadBlocks(x, 0, 1);
            loadBlocks(x, 0, 2);
            due("compact", x.compact(0), 1);
            dueBlock(x, 0, 1, 0, 5, 3);
            loadBlocks(x, 0, blocks);
            dueBytes(x, 0, 4, 0, blocks <= 3 ? 2 : 8, blocks, 0);
        }
    }

    /** All blocks but the last ones have files. */
    private static SchemaTables filledBut(int free) {
        SchemaTables x = longs();
        int left = 38 - free;
        while (left > 0) {
            int blocks = Math.min(5, left);
            loadBlocks(x, 0, blocks);
            left -= blocks;
        }
        return x;
    }

    private static void fileMayEndAtTheLastBlock() {
        begin("a file lies in blocks 2 .. 39");
        for (int free = 0; free <= 5; free++) {
            for (int blocks = 1; blocks <= 5; blocks++) {
                SchemaTables x = filledBut(free);
                int files = x.octet(0, 0);
                int records = x.records(0);
                int writes = x.writes();
                int more = stageBytes(x, bytesOf(blocks));
                boolean fits = blocks <= free;
                due(blocks + " blocks, free are " + free, x.load(0), fits ? records + more : FULL);
                due("files", x.octet(0, 0), fits ? files + 1 : files);
                due("writes", x.writes(), fits ? writes + blocks + 1 : writes);
                due("its place", x.octet(0, 2 + 3 * files), fits ? 40 - free : 0);
                due("the last block", x.octet(39, 0) > 0, free == 0 || blocks == free);
            }
        }
    }

    private static void fileThatIsNotCommittedIsFree() {
        begin("until then its blocks are FREE, though they have its bytes");
        SchemaTables x = longs();
        loadBlocks(x, 0, 1);
        stageBytes(x, 60);
        x.limit(3);
        due("load", x.load(0), DOWN);
        x.restart();
        dueBytes(x, 3, 0, 83, LONGS, 2, 0, 60);
        dueBlock(x, 0, 1, 0, 2, 1);
        due("it is not in the table", x.files(0), 1);
        due("nor are its records", x.records(0), 1);
        stageBytes(x, 3);
        due("load", x.load(0), 2);
        dueBlock(x, 0, 2, 0, 2, 1, 0, 3, 1);
        due("the joined file, not committed", x.limit(1), 0);
        due("compact", x.compact(0), DOWN);
        x.restart();
        due("its block", x.octet(4, 0), 83);
        dueBlock(x, 0, 2, 0, 2, 1, 0, 3, 1);
        stageBytes(x, 1);
        due("load", x.load(0), 3);
        dueBlock(x, 0, 3, 0, 2, 1, 0, 3, 1, 0, 4, 1);
        dueBytes(x, 4, 0, 83, LONGS, 1, 0, 1, 0);
    }

    private static void fileStandsBehindAllOthers() {
        begin("the manifest is written, in which it stands behind all others");
        SchemaTables x = holes(1, 1);
        x.register(2, LONGS);
        dueBlock(x, 0, 3, 0, 6, 2, 1, 3, 1, 1, 5, 1);
        loadBlocks(x, 2, 1);
        dueBlock(x, 0, 4, 0, 6, 2, 1, 3, 1, 1, 5, 1, 2, 2, 1);
        loadBlocks(x, 0, 1);
        dueBlock(x, 0, 5, 0, 6, 2, 1, 3, 1, 1, 5, 1, 2, 2, 1, 0, 4, 1);
    }

    private static void subjectsAre0To2() {
        begin("SUBJECTS are 0 .. 2");
        for (int subject = 0; subject < 3; subject++) {
            SchemaTables x = plain();
            due("register", x.register(subject, INT), 0);
            due("versions", x.versions(subject), 1);
            due("version", x.version(subject, 0), INT);
            staged(x, INT, 5);
            due("load", x.load(subject), 1);
            due("compact", x.compact(subject), 0);
            due("records", x.records(subject), 1);
            due("files", x.files(subject), 1);
            dueRecord(x, subject, 0, INT, 5);
            staged(x, INT, 6);
            dueOutsideSubjects(x);
            due("what is staged stays", x.load(subject), 2);
            for (int other = 0; other < 3; other++) {
                due("versions", x.versions(other), other == subject ? 1 : 0);
                due("records", x.records(other), other == subject ? 2 : 0);
                due("files", x.files(other), other == subject ? 2 : 0);
            }
        }
    }

    private static void dueOutsideSubjects(SchemaTables x) {
        int writes = x.writes();
        for (int subject : NO_SUBJECTS) {
            due("register(" + subject + ")", x.register(subject, INT), NONE);
            due("versions(" + subject + ")", x.versions(subject), NONE);
            due("version(" + subject + ")", x.version(subject, 0), NONE);
            due("load(" + subject + ")", x.load(subject), NONE);
            due("compact(" + subject + ")", x.compact(subject), NONE);
            due("records(" + subject + ")", x.records(subject), NONE);
            due("files(" + subject + ")", x.files(subject), NONE);
            due("read(" + subject + ")", x.read(subject, 0, INT), NONE);
        }
        due("writes()", x.writes(), writes);
    }

    private static void recordsAreInTheManifestsOrder() {
        begin("each has its table: its files in the manifest's order, and their records in that order");
        SchemaTables x = plain();
        x.register(0, INT);
        x.register(1, INT);
        for (int i = 0; i < 4; i++) {
            staged(x, INT, 10 * i);
            staged(x, INT, 10 * i + 1);
            due("load", x.load(i % 2), i < 2 ? 2 : 4);
        }
        long[][] numbers = {{0, 1, 20, 21}, {10, 11, 30, 31}};
        for (int subject = 0; subject < 2; subject++) {
            due("before the first", x.read(subject, -1, INT), NONE);
            for (int k = 0; k < 4; k++) {
                dueRecord(x, subject, k, INT, numbers[subject][k]);
            }
            due("behind the last", x.read(subject, 4, INT), NONE);
        }
        due("compact", x.compact(0), 1);
        staged(x, INT, 40);
        due("load, in block 2, before the others", x.load(0), 5);
        dueBlock(x, 0, 4, 0, 6, 1, 1, 3, 1, 1, 5, 1, 0, 2, 1);
        for (int k = 0; k < 4; k++) {
            dueRecord(x, 0, k, INT, numbers[0][k]);
        }
        dueRecord(x, 0, 4, INT, 40);
    }

    private static void limitCountsBlockWrites() {
        begin("With a LIMIT of n block writes, n more are made; when a further one is to be made, it isn't");
        for (int n = 0; n <= 6; n++) {
            SchemaTables x = plain();
            for (int i = 0; i < 6; i++) {
                x.make(INT, 0, 0, 0);
            }
            x.register(1, INT);
            due("limit(" + n + ")", x.limit(n), 0);
            for (int i = 0; i < n; i++) {
                due("one of them", x.register(0, 4 + i), i);
            }
            due("writes()", x.writes(), 1 + n);
            due("up", x.versions(0), n);
            due("a further one", x.register(2, INT), DOWN);
            due("down", x.versions(0), NONE);
            due("writes()", x.writes(), 1 + n);
            due("the block", x.octet(1, 0), 1 + n);
            due("restart()", x.restart(), true);
            due("without a limit", x.register(2, INT), 0);
            due("without a limit", x.register(2, 4), 1);
        }
    }

    private static void limitThatIsUsedUpGoesOn() {
        begin("A limit that is used up by a call's last write goes on: the next write is not made");
        for (int last = 0; last < 3; last++) {
            for (int next = 0; next < 3; next++) {
                SchemaTables x = readyForAll();
                x.limit(last == 0 ? 1 : 2);
                due("the last", write(x, last) >= 0, true);
                due("up", x.restart(), false);
                due("give", x.give(8), 1);
                x.stage(INT);
                due("looks make no write", x.read(0, 0, INT), 1);
                due("nor does a refused call", x.register(0, INT), NONE);
                due("the next", write(x, next), DOWN);
            }
        }
    }

    /** A registration, a load and a compaction can be made, even one after the other. */
    private static SchemaTables readyForAll() {
        SchemaTables x = plain();
        x.make(INT, 0, 0, 0);
        x.make(INT, 0, 0, 0);
        x.register(0, INT);
        loaded(x, 0, INT, 1);
        loaded(x, 0, INT, 2);
        loaded(x, 0, INT, 3);
        staged(x, INT, 4);
        return x;
    }

    private static int write(SchemaTables x, int call) {
        switch (call) {
            case 0:
                return x.register(0, 4 + x.versions(0) - 1);
            case 1:
                return x.load(0);
            default:
                return x.compact(0);
        }
    }

    private static void machineThatGoesDownLosesWhatIsNotOnTheDisk() {
        begin("all that isn't on the disk is lost: the row at hand, what is staged, the limit, and the numbers of a read");
        for (int call = 0; call < 3; call++) {
            for (int made = 0; made < (call == 0 ? 1 : 2); made++) {
                SchemaTables x = readyForAll();
                x.field(3, INT, false, 0);
                x.give(5);
                due("read", x.read(0, 1, INT), 1);
                due("number(0)", x.number(0), 2);
                x.limit(made);
                due("call " + call, write(x, call), DOWN);
                due("the numbers of a read", x.number(0), 0);
                due("a field stays", x.field(4, INT, false, 0), 2);
                due("restart()", x.restart(), true);
                due("the numbers of a read", x.number(0), 0);
                due("the row at hand", x.give(6), 1);
                due("what is staged", x.load(0), NONE);
                due("another schema can be staged", x.stage(LONG), 1);
                due("versions", x.versions(0), 1);
                due("records", x.records(0), 3);
                due("files", x.files(0), 3);
                due("the limit", write(x, 0), 1);
                due("the limit", write(x, 2), 1);
                due("the limit", write(x, 2), 1);
                due("fields stay", x.make(RECORD, 0, 0, 0), 6);
            }
        }
    }

    private static void whileDownCallsAreRefused() {
        begin("While it is down, give, stage, drop, register, load, compact, read and limit answer DOWN");
        SchemaTables x = readyForAll();
        x.limit(0);
        due("down", x.compact(0), DOWN);
        int writes = x.writes();
        for (int i = 0; i < 2; i++) {
            due("give", x.give(1), DOWN);
            due("stage", x.stage(INT), DOWN);
            due("drop", x.drop(), DOWN);
            due("register", x.register(1, INT), DOWN);
            due("load", x.load(0), DOWN);
            due("compact", x.compact(0), DOWN);
            due("read", x.read(0, 0, INT), DOWN);
            due("limit", x.limit(0), DOWN);
        }
        due("writes()", x.writes(), writes);
        due("restart()", x.restart(), true);
        due("nothing was given", x.give(1), 1);
        due("no limit was set", x.register(1, INT), 0);
    }

    private static void whileDownOthersGoOn() {
        begin("While it is down, schemas can be made and the disk looked at");
        SchemaTables x = readyForAll();
        goDown(x);
        due("field", x.field(0, INT, true, 7), 1);
        due("field refuses", x.field(0, INT, true, 7), NONE);
        due("make", x.make(RECORD, 1, 0, 0), 6);
        due("make refuses", x.make(ARRAY, 1, 7, 0), NONE);
        due("canRead", x.canRead(LONG, INT), true);
        due("canRead", x.canRead(INT, LONG), false);
        dueBlock(x, 1, 1, 0, INT);
        dueBlock(x, 0, 3, 0, 2, 1, 0, 3, 1, 0, 4, 1);
        due("octet of none", x.octet(40, 0), NONE);
        due("writes()", x.writes(), 7);
        due("number(0)", x.number(0), 0);
        for (int subject = -1; subject <= 3; subject++) {
            due("versions", x.versions(subject), NONE);
            due("version", x.version(subject, 0), NONE);
            due("records", x.records(subject), NONE);
            due("files", x.files(subject), NONE);
        }
        due("restart()", x.restart(), true);
        due("what was made while it was down", x.register(2, 6), 0);
    }

    private static void reasonsAreTestedInOrder() {
        begin("Where several reasons are named for a call, they are tested in the order in which they stand, DOWN first");
        SchemaTables x = longs();
        goDown(x);
        due("stage of no schema", x.stage(-1), DOWN);
        due("register of no subject", x.register(3, -1), DOWN);
        due("load of nothing, nowhere", x.load(-1), DOWN);
        due("compact of no subject", x.compact(3), DOWN);
        due("read of nothing", x.read(-1, -1, -1), DOWN);
        due("limit below 0", x.limit(-1), DOWN);
        x = longs();
        stageBytes(x, 150);
        due("stage: another schema, and too long", staged(x, LONG, 1), NONE);
        x.drop();
        stageBytes(x, 150);
        due("stage: no value, and too long", staged(x, LONGS, 1), NONE);
        due("stage: too long", staged(x, LONGS, 1), FULL);
        x = filledBut(0);
        stageBytes(x, 1);
        due("load: not registered, and no free blocks", x.load(1), NONE);
        due("load: no free blocks", x.load(0), FULL);
        x.drop();
        due("load: nothing staged, and no free blocks", x.load(0), NONE);
        x = plain();
        for (int i = 0; i < 10; i++) {
            x.make(LONG, 0, 0, 0);
            x.register(0, 4 + i);
        }
        due("register: ten in all, and it can't read", x.register(0, INT), NONE);
        due("register: there already, and ten in all", x.register(0, 4), NONE);
    }
}
