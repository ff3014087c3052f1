/**
 * A store of pages that survives a crash ahead of any write. The face stands first, what it rests on behind it:
 * pages, the disk, records and their log, the cache, the tree, transactions, undoing, recovery, and the walk that
 * checks all. A private method that answers false, or CRASHED, tells that a crash came ahead of one of its writes.
 */
public final class PageLoom {
    /** There is none. */
    public static final int NONE = -1;
    /** It waits. */
    public static final int WAITS = -2;
    /** It was the victim. */
    public static final int VICTIM = -3;
    /** There was a crash. */
    public static final int CRASHED = -4;
    /** There is no page left. */
    public static final int FULL = -5;

    private static final int PAGES = 24;
    private static final int ROOT = 0;
    private static final int FRAMES = 4;
    private static final int TRANSACTIONS = 4;
    private static final int KEYS = 32;
    private static final int VALUES = 1000;
    private static final int FULL_COUNT = 4;
    private static final int HALVES_WRITTEN = 4;
    private static final int MOST_TOLD_WRITE = 999;
    private static final int RECORDS_REFUSED_FROM = 200;
    private static final int DONE = 0;

    private static final int FREE = 0;
    private static final int LEAF = 1;
    private static final int INNER = 2;

    private static final int CHANGE = 0;
    private static final int UNDO = 1;
    private static final int COMMIT = 2;
    private static final int END = 3;
    private static final int MARK = 4;
    private static final int SPLIT = 5;
    private static final int GO = 6;
    private static final int TAKE_OVER = 7;

    private static final int READ_RECORDS = 0;
    private static final int REDONE_CHANGES = 1;
    private static final int MADE_UNDOS = 2;
    private static final int MENDED_HALVES = 3;
    private static final int PASS_COUNTS = 4;

    private final Disk disk;
    private final Transactions transactions;
    private final Log log;
    private final Cache cache;
    private final Tree tree;
    private final Undoing undoing;
    private final Recovery recovery;
    private final Walk walk;
    private boolean down;

    public PageLoom() {
        disk = new Disk();
        transactions = new Transactions();
        log = new Log(disk, transactions);
        cache = new Cache(disk);
        tree = new Tree(cache, log);
        undoing = new Undoing(tree, log, transactions);
        recovery = new Recovery(disk, log, cache, tree, transactions);
        walk = new Walk(cache, log, transactions);
    }

    // ---- transactions

    public void open(int transaction) throws IllegalArgumentException, IllegalStateException {
        needTransaction(transaction);
        needNoCrash();
        if (transactions.open[transaction]) {
            throw new IllegalStateException("the transaction is open");
        }
        transactions.begin(transaction);
    }

    public int put(int transaction, int key, int value) throws IllegalArgumentException, IllegalStateException {
        needTransaction(transaction);
        needKey(key);
        if (value < 0 || value >= VALUES) {
            throw new IllegalArgumentException("no such value");
        }
        needOpen(transaction);
        needRoomInLog();
        int answer = lock(transaction, key);
        if (answer == DONE) {
            answer = splitFor(key);
        }
        if (answer == DONE && !changeLeaf(transaction, key, value)) {
            answer = CRASHED;
        }
        return told(answer);
    }

    public int take(int transaction, int key) throws IllegalArgumentException, IllegalStateException {
        needTransaction(transaction);
        needKey(key);
        needOpen(transaction);
        needRoomInLog();
        int answer = lock(transaction, key);
        if (answer != DONE) {
            return told(answer);
        }
        if (!tree.find(key)) {
            return told(CRASHED);
        }
        int value = tree.valueAtEnd(key);
        if (value == NONE) {
            return NONE;
        }
        boolean stands = changeLeaf(transaction, key, NONE);
        for (int steps = 0; steps < PAGES && stands && tree.endIsBare(); steps++) {
            int bare = tree.end();
            stands = tree.goes(bare, tree.stepUp());
        }
        return told(stands ? value : CRASHED);
    }

    public int read(int transaction, int key) throws IllegalArgumentException, IllegalStateException {
        needTransaction(transaction);
        needKey(key);
        needOpen(transaction);
        int answer = lock(transaction, key);
        if (answer == DONE) {
            answer = tree.find(key) ? tree.valueAtEnd(key) : CRASHED;
        }
        return told(answer);
    }

    public int place(int transaction) throws IllegalArgumentException, IllegalStateException {
        needTransaction(transaction);
        needOpen(transaction);
        transactions.waits[transaction] = NONE;
        return transactions.latest[transaction];
    }

    public int back(int transaction, int place) throws IllegalArgumentException, IllegalStateException {
        needTransaction(transaction);
        if (place < 0 || place > log.last) {
            throw new IllegalArgumentException("no such place");
        }
        needOpen(transaction);
        transactions.waits[transaction] = NONE;
        undoing.lookAtAlone(transaction);
        return told(undoing.goBack(place, false) ? undoing.made : CRASHED);
    }

    public int commit(int transaction) throws IllegalArgumentException, IllegalStateException {
        needTransaction(transaction);
        needOpen(transaction);
        if (log.append(COMMIT, transaction) == null || !disk.makeDurable(log.last)) {
            return told(CRASHED);
        }
        transactions.finish(transaction);
        return log.last;
    }

    public int undo(int transaction) throws IllegalArgumentException, IllegalStateException {
        needTransaction(transaction);
        needOpen(transaction);
        undoing.lookAtAlone(transaction);
        return told(undoing.goBack(0, true) ? undoing.made : CRASHED);
    }

    // ---- marks, writes, crashes

    public int mark() throws IllegalStateException {
        needNoCrash();
        needRoomInLog();
        LogRecord mark = log.append(MARK, NONE);
        if (mark == null) {
            return told(CRASHED);
        }
        transactions.tellLatest(mark);
        cache.tellDiffering(mark);
        return told(disk.makeDurable(log.last) ? log.last : CRASHED);
    }

    public int write(int page) throws IndexOutOfBoundsException, IllegalStateException {
        needPage(page);
        needNoCrash();
        if (!cache.differs(page)) {
            return 0;
        }
        return told(cache.clean(page) ? 1 : CRASHED);
    }

    public void crashAt(int write) throws IllegalArgumentException {
        if (write < 0 || write > MOST_TOLD_WRITE) {
            throw new IllegalArgumentException("no such write");
        }
        disk.crashAhead = write;
    }

    public void crash() {
        if (!down) {
            fall();
        }
    }

    public int recover() throws IllegalStateException {
        if (!down) {
            throw new IllegalStateException("there is no crash to recover from");
        }
        recovery.begin();
        if (!recovery.mend()) {
            return told(CRASHED);
        }
        recovery.readLog();
        if (!recovery.redo() || !recovery.tidy()) {
            return told(CRASHED);
        }
        undoing.lookAtAllWithRecords();
        boolean stands = undoing.goBack(0, true);
        recovery.counts[MADE_UNDOS] = undoing.made;
        if (!stands) {
            return told(CRASHED);
        }
        transactions.clear();
        down = false;
        return DONE;
    }

    public int pass(int what) throws IllegalArgumentException {
        if (what < 0 || what >= PASS_COUNTS) {
            throw new IllegalArgumentException("no such count");
        }
        return recovery.counts[what];
    }

    // ---- what is asked, at any time, without any use

    public int page(int page, int what) throws IndexOutOfBoundsException, IllegalArgumentException {
        needPage(page);
        if (what < 0 || what > 3) {
            throw new IllegalArgumentException("a page has no such thing");
        }
        if (what == 3) {
            return cache.frameOf(page) == NONE ? 0 : 1;
        }
        Page seen = cache.seen(page);
        if (seen == null) {
            return NONE;
        }
        if (what == 0) {
            return seen.kind;
        }
        return what == 1 ? seen.number : seen.count;
    }

    public int entry(int page, int at) throws IndexOutOfBoundsException {
        needPage(page);
        if (at < 0) {
            throw new IndexOutOfBoundsException("no such entry");
        }
        Page seen = cache.seen(page);
        return seen == null || at >= seen.count ? NONE : seen.cellAt(at);
    }

    public int frame(int frame, int what) throws IndexOutOfBoundsException, IllegalArgumentException {
        if (frame < 0 || frame >= FRAMES) {
            throw new IndexOutOfBoundsException("no such frame");
        }
        if (what < 0 || what > 2) {
            throw new IllegalArgumentException("a frame has no such thing");
        }
        if (what == 0) {
            return cache.held[frame];
        }
        if (what == 1) {
            return cache.used[frame] ? 1 : 0;
        }
        return cache.since[frame];
    }

    public int hand() {
        return cache.handAt;
    }

    public int record(int record, int what) throws IndexOutOfBoundsException, IllegalArgumentException {
        LogRecord asked = log.at(record);
        if (asked == null) {
            throw new IndexOutOfBoundsException("no such record");
        }
        switch (what) {
            case 0:
                return asked.kind;
            case 1:
                return asked.who;
            case 2:
                return asked.key;
            case 3:
                return asked.undone;
            case 4:
                return asked.pages;
            default:
                throw new IllegalArgumentException("a record has no such thing");
        }
    }

    public int records() {
        return log.last;
    }

    public int durable() {
        return disk.durableTo;
    }

    public int writes() {
        return disk.writesDone;
    }

    public int holder(int key) throws IllegalArgumentException {
        needKey(key);
        return transactions.holders[key];
    }

    public int waitsFor(int transaction) throws IllegalArgumentException {
        needTransaction(transaction);
        return transactions.waits[transaction];
    }

    public int plain(int key) throws IllegalArgumentException {
        needKey(key);
        return log.committedValues()[key];
    }

    public boolean agrees() {
        return walk.agreesWithLog();
    }

    public int check() {
        return walk.leastFault();
    }

    // ---- what the face rests on

    private static void needTransaction(int transaction) {
        if (transaction < 0 || transaction >= TRANSACTIONS) {
            throw new IllegalArgumentException("no such transaction");
        }
    }

    private static void needKey(int key) {
        if (key < 0 || key >= KEYS) {
            throw new IllegalArgumentException("no such key");
        }
    }

    private static void needPage(int page) {
        if (page < 0 || page >= PAGES) {
            throw new IndexOutOfBoundsException("no such page");
        }
    }

    private void needNoCrash() {
        if (down) {
            throw new IllegalStateException("there was a crash");
        }
    }

    private void needOpen(int transaction) {
        needNoCrash();
        if (!transactions.open[transaction]) {
            throw new IllegalStateException("the transaction is not open");
        }
    }

    private void needRoomInLog() {
        if (log.last >= RECORDS_REFUSED_FROM) {
            throw new IllegalStateException("the log has too many records");
        }
    }

    /** The answer, behind all that a crash takes with it if that is what the answer tells. */
    private int told(int answer) {
        if (answer == CRASHED) {
            fall();
        }
        return answer;
    }

    private void fall() {
        down = true;
        cache.empty();
        log.cut();
        transactions.clear();
    }

    /** DONE if the transaction has the key, otherwise WAITS, VICTIM or CRASHED. */
    private int lock(int transaction, int key) {
        transactions.waits[transaction] = NONE;
        for (int round = 0; round < TRANSACTIONS; round++) {
            int other = transactions.holders[key];
            if (other == NONE || other == transaction) {
                transactions.holders[key] = transaction;
                return DONE;
            }
            transactions.waits[transaction] = other;
            int victim = transactions.victimOnRing(transaction);
            if (victim == NONE) {
                return WAITS;
            }
            undoing.lookAtAlone(victim);
            if (!undoing.goBack(0, true)) {
                return CRASHED;
            }
            if (victim == transaction) {
                return VICTIM;
            }
        }
        return WAITS;
    }

    /** Finds the key and makes place for it; DONE, FULL or CRASHED. */
    private int splitFor(int key) {
        for (int round = 0; round <= PAGES; round++) {
            if (!tree.find(key)) {
                return CRASHED;
            }
            if (!tree.endIsFullFor(key)) {
                return DONE;
            }
            int level = tree.topmostFull();
            if (!tree.pagesSufficeToSplit(level)) {
                return FULL;
            }
            if (!tree.split(level)) {
                return CRASHED;
            }
        }
        return FULL;
    }

    /** Changes the leaf that was found for the key. */
    private boolean changeLeaf(int transaction, int key, int value) {
        LogRecord change = log.append(CHANGE, transaction);
        if (change == null) {
            return false;
        }
        change.key = key;
        change.was = tree.valueAtEnd(key);
        change.becomes = value;
        change.tellLeaf(tree.end());
        return tree.perform(log.last);
    }

    /** A page as it lies in a frame or on the disk, or an image of what a small action makes of it. */
    private static final class Page {
        private static final int LEAF_UNIT = 1000;
        private static final int INNER_UNIT = 100;

        int kind;
        int number;
        int count;
        /** As entry() tells them: of a leaf keys and values, of an inner page the keys ahead and the children. */
        final int[] cells = new int[KEYS];

        static int childCell(int keyAhead, int child) {
            return INNER_UNIT * keyAhead + child;
        }

        void blank(int newKind) {
            kind = newKind;
            count = 0;
        }

        void become(Page other) {
            kind = other.kind;
            number = other.number;
            count = other.count;
            for (int i = 0; i < count && i < KEYS; i++) {
                cells[i] = other.cells[i];
            }
        }

        boolean isBare() {
            return kind != FREE && count == 0;
        }

        int cellAt(int at) {
            return at >= 0 && at < count && at < KEYS ? cells[at] : NONE;
        }

        int keyAt(int at) {
            int cell = cellAt(at);
            if (cell == NONE) {
                return NONE;
            }
            return kind == INNER ? cell / INNER_UNIT : cell / LEAF_UNIT;
        }

        int childAt(int at) {
            int cell = cellAt(at);
            return cell == NONE ? NONE : cell % INNER_UNIT;
        }

        /** The child beneath which the key is to be found; NONE without children. */
        int childFor(int key) {
            int at = 0;
            for (int next = 1; next < count && next < KEYS; next++) {
                if (cells[next] / INNER_UNIT <= key) {
                    at = next;
                }
            }
            return childAt(at);
        }

        int placeOfChild(int child) {
            for (int at = 0; at < count && at < KEYS; at++) {
                if (cells[at] % INNER_UNIT == child) {
                    return at;
                }
            }
            return NONE;
        }

        int valueOf(int key) {
            int at = placeOfKey(key);
            int cell = cellAt(at);
            return cell != NONE && cell / LEAF_UNIT == key ? cell % LEAF_UNIT : NONE;
        }

        void setValue(int key, int value) {
            int at = placeOfKey(key);
            boolean there = at < count && at < KEYS && cells[at] / LEAF_UNIT == key;
            if (value == NONE && there) {
                remove(at);
            } else if (value != NONE && there) {
                cells[at] = LEAF_UNIT * key + value;
            } else if (value != NONE) {
                insert(at, LEAF_UNIT * key + value);
            }
        }

        /** Where the key stands in a leaf, or would stand. */
        private int placeOfKey(int key) {
            int at = 0;
            while (at < count && at < KEYS && cells[at] / LEAF_UNIT < key) {
                at++;
            }
            return at;
        }

        void insert(int at, int cell) {
            if (at < 0 || at > count || count >= KEYS) {
                return;
            }
            for (int i = count; i > at; i--) {
                cells[i] = cells[i - 1];
            }
            cells[at] = cell;
            count++;
        }

        void remove(int at) {
            if (at < 0 || at >= count || count > KEYS) {
                return;
            }
            for (int i = at + 1; i < count; i++) {
                cells[i - 1] = cells[i];
            }
            count--;
        }

        /** Gets the other's cells from one on and ahead of another one, and its kind. */
        void becomePart(Page other, int from, int to) {
            kind = other.kind;
            count = 0;
            for (int i = from; i >= 0 && i < to && i < other.count && i < KEYS; i++) {
                cells[count] = other.cells[i];
                count++;
            }
            forgetKeyAheadOfFirst();
        }

        void removeChild(int child) {
            remove(placeOfChild(child));
            forgetKeyAheadOfFirst();
        }

        /** Ahead of the first child there is no key. */
        private void forgetKeyAheadOfFirst() {
            if (kind == INNER && count > 0) {
                cells[0] = cells[0] % INNER_UNIT;
            }
        }
    }

    /** What outlives a crash: the pages in halves, the spare, how far the log is durable; it counts the writes. */
    private static final class Disk {
        final Page[] pages = new Page[PAGES];
        final int[] firstHalves = new int[PAGES];
        final int[] secondHalves = new int[PAGES];
        final Page spare = new Page();
        int spareOf = NONE;
        int spareFirstHalf;
        int spareSecondHalf;
        int writings;
        int durableTo;
        int writesDone;
        /** Ahead of which write from now on the crash comes; 0 for none. */
        int crashAhead;

        Disk() {
            for (int page = 0; page < PAGES; page++) {
                pages[page] = new Page();
            }
            pages[ROOT].kind = LEAF;
        }

        /** Does writes, and answers how many: fewer than wanted if the crash came ahead of one of them. */
        int doWrites(int wanted) {
            int can = wanted;
            if (crashAhead > 0 && crashAhead <= wanted) {
                can = crashAhead - 1;
                crashAhead = 0;
            } else if (crashAhead > 0) {
                crashAhead -= wanted;
            }
            writesDone += can;
            return can;
        }

        boolean makeDurable(int record) {
            int due = record > durableTo ? record - durableTo : 0;
            int can = doWrites(due);
            durableTo += can;
            return can == due;
        }

        /** Makes the log durable as far as the page needs it, then writes the spare's halves, then the page's. */
        boolean writePage(int page, Page from) {
            if (page < 0 || page >= PAGES) {
                return true;
            }
            int due = from.number > durableTo ? from.number - durableTo : 0;
            int can = doWrites(due + HALVES_WRITTEN);
            if (can < due) {
                durableTo += can;
                return false;
            }
            durableTo += due;
            int halves = can - due;
            writings++;
            if (halves > 0) {
                spareOf = page;
                spareFirstHalf = writings;
            }
            if (halves > 1) {
                spareSecondHalf = writings;
                spare.become(from);
            }
            if (halves > 2) {
                firstHalves[page] = writings;
            }
            if (halves > 3) {
                secondHalves[page] = writings;
                pages[page].become(from);
            }
            return halves == HALVES_WRITTEN;
        }

        boolean isTorn(int page) {
            return page >= 0 && page < PAGES && firstHalves[page] != secondHalves[page];
        }

        boolean spareMends() {
            return spareFirstHalf == spareSecondHalf && isTorn(spareOf);
        }

        /** Writes the spare to its page, and answers how many of both halves were written. */
        int mendFromSpare() {
            if (spareOf < 0 || spareOf >= PAGES) {
                return 0;
            }
            int can = doWrites(2);
            if (can > 0) {
                firstHalves[spareOf] = spareFirstHalf;
            }
            if (can > 1) {
                secondHalves[spareOf] = spareSecondHalf;
                pages[spareOf].become(spare);
            }
            return can;
        }
    }

    /** A record of the log; the objects are used again when a crash has cut the log. */
    private static final class LogRecord {
        private static final int MOST_PAGES = 3;

        int number;
        int kind;
        int who;
        int key;
        int was;
        int becomes;
        /** The record of the same transaction ahead of this one. */
        int ahead;
        int undone;
        int pages;
        final int[] page = new int[MOST_PAGES];
        final Page[] images = new Page[MOST_PAGES];
        /** Of a MARK: the latest records of transactions, then the first ones of pages that differ; 0 for none. */
        int[] latestTold;
        int[] firstTold;

        void begin(int newNumber, int newKind, int transaction, int recordAhead) {
            number = newNumber;
            kind = newKind;
            who = transaction;
            key = NONE;
            was = NONE;
            becomes = NONE;
            ahead = recordAhead;
            undone = NONE;
            pages = 0;
        }

        void tellLeaf(int leaf) {
            page[0] = leaf;
            pages = 1;
        }

        /** The image, to be filled, of what the record makes of a page; the pages stand by rising numbers. */
        Page tellImage(int changed) {
            int at = pages < MOST_PAGES ? pages : MOST_PAGES - 1;
            Page image = images[at] == null ? new Page() : images[at];
            while (at > 0 && page[at - 1] > changed) {
                page[at] = page[at - 1];
                images[at] = images[at - 1];
                at--;
            }
            page[at] = changed;
            images[at] = image;
            if (pages < MOST_PAGES) {
                pages++;
            }
            image.blank(FREE);
            return image;
        }

        int toldLatest(int transaction) {
            boolean there = latestTold != null && transaction >= 0 && transaction < latestTold.length;
            return there ? latestTold[transaction] : 0;
        }

        int toldFirst(int page) {
            return firstTold != null && page >= 0 && page < firstTold.length ? firstTold[page] : 0;
        }

        int pageAt(int at) {
            return at >= 0 && at < pages && at < MOST_PAGES ? page[at] : NONE;
        }

        /** Makes of a page what the record tells of it at a place. */
        void changePage(int at, Page there) {
            Page image = at >= 0 && at < MOST_PAGES ? images[at] : null;
            if (kind == CHANGE || kind == UNDO) {
                there.setValue(key, becomes);
            } else if (image != null) {
                there.become(image);
            }
            there.number = number;
        }
    }

    private static final class Log {
        /**
         * Far above what 512 calls can make: some 220 records before put(), take() and mark() refuse, as many
         * UNDOs, some 50 GOs and TAKE OVERs, and one COMMIT or END for each open().
         */
        private static final int MOST_RECORDS = 1100;
        private static final int UNKNOWN = -2;

        private final Disk disk;
        private final Transactions transactions;
        private final LogRecord[] records = new LogRecord[MOST_RECORDS];
        private final int[] committed = new int[KEYS];
        int last;

        Log(Disk disk, Transactions transactions) {
            this.disk = disk;
            this.transactions = transactions;
        }

        /** The record with a number; null if there is none. */
        LogRecord at(int number) {
            return number >= 1 && number <= last && number <= MOST_RECORDS ? records[number - 1] : null;
        }

        /** A new latest record, to be filled; null beyond all room, which stops the caller as a crash does. */
        LogRecord append(int kind, int transaction) {
            if (last < 0 || last >= MOST_RECORDS) {
                return null;
            }
            LogRecord made = records[last];
            if (made == null) {
                made = new LogRecord();
                records[last] = made;
            }
            last++;
            made.begin(last, kind, transaction, transactions.noteRecord(transaction, last));
            return made;
        }

        /** A crash takes all records that are not durable. */
        void cut() {
            if (last > disk.durableTo) {
                last = disk.durableTo;
            }
        }

        /** The values of all keys by the COMMITs that are durable; the next call uses the same array again. */
        int[] committedValues() {
            for (int key = 0; key < KEYS; key++) {
                committed[key] = UNKNOWN;
            }
            for (int number = disk.durableTo; number >= 1; number--) {
                LogRecord end = at(number);
                if (end != null && end.kind == COMMIT) {
                    believeChain(end);
                }
            }
            for (int key = 0; key < KEYS; key++) {
                if (committed[key] == UNKNOWN) {
                    committed[key] = NONE;
                }
            }
            return committed;
        }

        /** Goes from a COMMIT back: what stands later in the log was seen before, and is what counts. */
        private void believeChain(LogRecord end) {
            LogRecord looked = at(end.ahead);
            for (int steps = 0; steps < MOST_RECORDS && looked != null; steps++) {
                int key = looked.key;
                if (key >= 0 && key < KEYS && committed[key] == UNKNOWN) {
                    committed[key] = looked.becomes;
                }
                looked = at(looked.ahead);
            }
        }
    }

    private static final class Cache {
        private final Disk disk;
        private final Page[] frames = new Page[FRAMES];
        final int[] held = new int[FRAMES];
        final boolean[] used = new boolean[FRAMES];
        /** The record that changed the page first since it differs from the disk; 0 if it does not. */
        final int[] since = new int[FRAMES];
        int handAt;

        Cache(Disk disk) {
            this.disk = disk;
            for (int frame = 0; frame < FRAMES; frame++) {
                frames[frame] = new Page();
                held[frame] = NONE;
            }
        }

        void empty() {
            for (int frame = 0; frame < FRAMES; frame++) {
                held[frame] = NONE;
                used[frame] = false;
                since[frame] = 0;
            }
            handAt = 0;
        }

        int frameOf(int page) {
            for (int frame = 0; frame < FRAMES; frame++) {
                if (held[frame] == page) {
                    return frame;
                }
            }
            return NONE;
        }

        /** The page in its frame or else on the disk, without any use; null if its halves are unlike. */
        Page seen(int page) {
            if (page < 0 || page >= PAGES) {
                return null;
            }
            int frame = frameOf(page);
            if (frame >= 0 && frame < FRAMES) {
                return frames[frame];
            }
            return disk.isTorn(page) ? null : disk.pages[page];
        }

        /** The kind of a page as it is seen; NONE if its halves are unlike. */
        int kindSeen(int page) {
            Page there = seen(page);
            return there == null ? NONE : there.kind;
        }

        /** Uses a page. */
        boolean use(int page) {
            if (page < 0 || page >= PAGES) {
                return false;
            }
            int frame = frameOf(page);
            if (frame < 0 || frame >= FRAMES) {
                frame = takeFrame();
                if (since[frame] > 0 && !disk.writePage(held[frame], frames[frame])) {
                    return false;
                }
                frames[frame].become(disk.pages[page]);
                held[frame] = page;
                since[frame] = 0;
            }
            used[frame] = true;
            return true;
        }

        private int takeFrame() {
            int frame = 0;
            for (int passed = 0; passed <= FRAMES; passed++) {
                frame = handAt >= 0 && handAt < FRAMES ? handAt : 0;
                handAt = (frame + 1) % FRAMES;
                if (held[frame] == NONE || !used[frame]) {
                    return frame;
                }
                used[frame] = false;
            }
            return frame;
        }

        /** The page in its frame, to be changed by a record; null if it is in none. */
        Page toChange(int page, int number) {
            int frame = frameOf(page);
            if (frame < 0 || frame >= FRAMES) {
                return null;
            }
            if (since[frame] == 0) {
                since[frame] = number;
            }
            return frames[frame];
        }

        boolean differs(int page) {
            int frame = frameOf(page);
            return frame >= 0 && frame < FRAMES && since[frame] > 0;
        }

        /** Writes a page that differs, which is no use of it. */
        boolean clean(int page) {
            int frame = frameOf(page);
            if (frame < 0 || frame >= FRAMES) {
                return true;
            }
            if (!disk.writePage(page, frames[frame])) {
                return false;
            }
            since[frame] = 0;
            return true;
        }

        void tellDiffering(LogRecord mark) {
            if (mark.firstTold == null) {
                mark.firstTold = new int[PAGES];
            }
            for (int page = 0; page < PAGES && page < mark.firstTold.length; page++) {
                mark.firstTold[page] = 0;
            }
            for (int frame = 0; frame < FRAMES; frame++) {
                int page = held[frame];
                if (page >= 0 && page < mark.firstTold.length) {
                    mark.firstTold[page] = since[frame];
                }
            }
        }
    }

    private static final class Tree {
        private final Cache cache;
        private final Log log;
        /** The pages from the root to the one that was found latest; those that went since are left away. */
        private final int[] way = new int[PAGES];
        private int level;

        Tree(Cache cache, Log log) {
            this.cache = cache;
            this.log = log;
        }

        private int onWay(int at) {
            return at >= 0 && at < PAGES ? way[at] : ROOT;
        }

        int end() {
            return onWay(level);
        }

        /** Finds the leaf of a key. */
        boolean find(int key) {
            int page = ROOT;
            for (int depth = 0; depth < PAGES; depth++) {
                if (!cache.use(page)) {
                    return false;
                }
                way[depth] = page;
                level = depth;
                Page there = cache.seen(page);
                if (there == null || there.kind != INNER) {
                    return there != null;
                }
                page = there.childFor(key);
            }
            return false;
        }

        int valueAtEnd(int key) {
            Page leaf = cache.seen(end());
            return leaf == null ? NONE : leaf.valueOf(key);
        }

        boolean endIsFullFor(int key) {
            Page leaf = cache.seen(end());
            return leaf != null && leaf.count >= FULL_COUNT && leaf.valueOf(key) == NONE;
        }

        /** The topmost level of the way from which on all pages are full; its end is. */
        int topmostFull() {
            int top = level;
            for (int at = level - 1; at >= 0; at--) {
                Page there = cache.seen(onWay(at));
                if (there == null || there.count < FULL_COUNT) {
                    return top;
                }
                top = at;
            }
            return top;
        }

        /** The lowest free page behind one; NONE if there is none. */
        private int freePageBehind(int page) {
            for (int free = page + 1; free < PAGES; free++) {
                if (cache.kindSeen(free) == FREE) {
                    return free;
                }
            }
            return NONE;
        }

        boolean pagesSufficeToSplit(int at) {
            int free = freePageBehind(ROOT);
            return free != NONE && (at > 0 || freePageBehind(free) != NONE);
        }

        /** SPLITs the page at a level of the way. */
        boolean split(int at) {
            Page old = cache.seen(onWay(at));
            LogRecord record = log.append(SPLIT, NONE);
            if (old == null || record == null) {
                return false;
            }
            if (at == 0) {
                tellRootSplit(record, old);
            } else {
                tellSplit(record, old, onWay(at), onWay(at - 1));
            }
            return perform(log.last);
        }

        private void tellRootSplit(LogRecord record, Page old) {
            int half = (old.count + 1) / 2;
            int lower = freePageBehind(ROOT);
            int upper = freePageBehind(lower);
            Page root = record.tellImage(ROOT);
            root.blank(INNER);
            root.insert(0, Page.childCell(0, lower));
            root.insert(1, Page.childCell(old.keyAt(half), upper));
            record.tellImage(lower).becomePart(old, 0, half);
            record.tellImage(upper).becomePart(old, half, old.count);
        }

        private void tellSplit(LogRecord record, Page old, int page, int parent) {
            int half = (old.count + 1) / 2;
            int fresh = freePageBehind(ROOT);
            Page above = cache.seen(parent);
            if (above == null) {
                return;
            }
            Page image = record.tellImage(parent);
            image.become(above);
            image.insert(above.placeOfChild(page) + 1, Page.childCell(old.keyAt(half), fresh));
            record.tellImage(page).becomePart(old, 0, half);
            record.tellImage(fresh).becomePart(old, half, old.count);
        }

        /** Changes all pages that a record tells, by rising numbers. */
        boolean perform(int number) {
            LogRecord record = log.at(number);
            if (record == null) {
                return false;
            }
            for (int at = 0; at < record.pages; at++) {
                int page = record.pageAt(at);
                if (!cache.use(page)) {
                    return false;
                }
                Page there = cache.toChange(page, number);
                if (there != null) {
                    record.changePage(at, there);
                }
            }
            return true;
        }

        /** Whether the end of the way has nothing left, and is not the root. */
        boolean endIsBare() {
            Page there = cache.seen(end());
            return level > 0 && there != null && there.isBare();
        }

        /** Makes the parent of the end the end, and answers it. */
        int stepUp() {
            if (level > 0) {
                level--;
            }
            return end();
        }

        /** Lets a page GO from its parent, if it is not the root; then the root TAKEs OVER as long as it can. */
        boolean goes(int page, int parent) {
            if (page != ROOT) {
                LogRecord record = log.append(GO, NONE);
                if (record == null) {
                    return false;
                }
                tellGo(record, page, parent);
                if (!perform(log.last)) {
                    return false;
                }
            }
            for (int round = 0; round < PAGES; round++) {
                if (!cache.use(ROOT)) {
                    return false;
                }
                int child = onlyChildOfRoot();
                if (child == NONE) {
                    return true;
                }
                if (!cache.use(child)) {
                    return false;
                }
                LogRecord record = log.append(TAKE_OVER, NONE);
                if (record == null) {
                    return false;
                }
                tellTakeOver(record, child);
                if (!perform(log.last)) {
                    return false;
                }
            }
            return true;
        }

        private void tellGo(LogRecord record, int page, int parent) {
            Page above = cache.seen(parent);
            if (above == null) {
                return;
            }
            record.tellImage(page).blank(FREE);
            Page image = record.tellImage(parent);
            image.become(above);
            image.removeChild(page);
        }

        private void tellTakeOver(LogRecord record, int child) {
            Page old = cache.seen(child);
            if (old == null) {
                return;
            }
            record.tellImage(ROOT).become(old);
            record.tellImage(child).blank(FREE);
        }

        private int onlyChildOfRoot() {
            Page root = cache.seen(ROOT);
            return root != null && root.kind == INNER && root.count == 1 ? root.childAt(0) : NONE;
        }

        /** What is not as it stays: the ROOT if it can TAKE OVER, else the lowest bare page; NONE if all is well. */
        int lowestUnsettled() {
            if (onlyChildOfRoot() != NONE) {
                return ROOT;
            }
            for (int page = ROOT + 1; page < PAGES; page++) {
                Page there = cache.seen(page);
                if (there != null && there.isBare()) {
                    return page;
                }
            }
            return NONE;
        }

        /** Whose child a page is, without any use; NONE if it is nobody's. */
        int parentOf(int child) {
            for (int page = 0; page < PAGES; page++) {
                Page there = cache.seen(page);
                if (there != null && there.kind == INNER && there.placeOfChild(child) != NONE) {
                    return page;
                }
            }
            return NONE;
        }
    }

    /** Who is open, with its records, who has locked which key, and who waits for whom. */
    private static final class Transactions {
        final boolean[] open = new boolean[TRANSACTIONS];
        final int[] latest = new int[TRANSACTIONS];
        private final int[] recordsMade = new int[TRANSACTIONS];
        final int[] waits = new int[TRANSACTIONS];
        final int[] holders = new int[KEYS];

        Transactions() {
            for (int transaction = 0; transaction < TRANSACTIONS; transaction++) {
                waits[transaction] = NONE;
            }
            for (int key = 0; key < KEYS; key++) {
                holders[key] = NONE;
            }
        }

        void begin(int transaction) {
            open[transaction] = true;
            latest[transaction] = 0;
            recordsMade[transaction] = 0;
        }

        /** Ends a transaction: its keys are free, and nobody waits for it any more. */
        void finish(int transaction) {
            open[transaction] = false;
            latest[transaction] = 0;
            waits[transaction] = NONE;
            for (int other = 0; other < TRANSACTIONS; other++) {
                if (waits[other] == transaction) {
                    waits[other] = NONE;
                }
            }
            for (int key = 0; key < KEYS; key++) {
                if (holders[key] == transaction) {
                    holders[key] = NONE;
                }
            }
        }

        void clear() {
            for (int transaction = 0; transaction < TRANSACTIONS; transaction++) {
                finish(transaction);
            }
        }

        /** Notes a new record of a transaction, if it is one's, and answers which one was ahead of it. */
        int noteRecord(int transaction, int number) {
            if (transaction < 0 || transaction >= TRANSACTIONS) {
                return 0;
            }
            int ahead = latest[transaction];
            latest[transaction] = number;
            recordsMade[transaction]++;
            return ahead;
        }

        /** The victim of the ring on which one waits; NONE if it waits on no ring. */
        int victimOnRing(int transaction) {
            int victim = transaction;
            int at = waits[transaction];
            for (int steps = 0; steps < TRANSACTIONS && at != transaction; steps++) {
                if (at < 0 || at >= TRANSACTIONS) {
                    return NONE;
                }
                if (recordsMade[at] < recordsMade[victim]
                        || recordsMade[at] == recordsMade[victim] && at > victim) {
                    victim = at;
                }
                at = waits[at];
            }
            return at == transaction ? victim : NONE;
        }

        void tellLatest(LogRecord mark) {
            if (mark.latestTold == null) {
                mark.latestTold = new int[TRANSACTIONS];
            }
            for (int who = 0; who < TRANSACTIONS && who < mark.latestTold.length; who++) {
                mark.latestTold[who] = open[who] ? latest[who] : 0;
            }
        }
    }

    /** Goes back in the log, for one transaction or for several together. */
    private static final class Undoing {
        private static final int MOST_STEPS = Log.MOST_RECORDS + TRANSACTIONS;

        private final Tree tree;
        private final Log log;
        private final Transactions transactions;
        /** The record of each transaction that is to be looked at; NONE for those that are left alone. */
        private final int[] next = new int[TRANSACTIONS];
        /** How many UNDOs were made since the going back began, with all that follows them. */
        int made;

        Undoing(Tree tree, Log log, Transactions transactions) {
            this.tree = tree;
            this.log = log;
            this.transactions = transactions;
        }

        void lookAtAlone(int alone) {
            for (int transaction = 0; transaction < TRANSACTIONS; transaction++) {
                next[transaction] = transaction == alone ? transactions.latest[transaction] : NONE;
            }
        }

        void lookAtAllWithRecords() {
            for (int transaction = 0; transaction < TRANSACTIONS; transaction++) {
                next[transaction] = transactions.latest[transaction] > 0 ? transactions.latest[transaction] : NONE;
            }
        }

        /** Undoes what stands above a place, the latest first; if they are to end, who has none left ends. */
        boolean goBack(int place, boolean toEnd) {
            made = 0;
            for (int steps = 0; steps < MOST_STEPS; steps++) {
                int transaction = nextTransaction(place);
                if (transaction == NONE) {
                    return true;
                }
                LogRecord looked = next[transaction] > place ? log.at(next[transaction]) : null;
                if (looked == null) {
                    next[transaction] = NONE;
                    if (toEnd && !end(transaction)) {
                        return false;
                    }
                    continue;
                }
                next[transaction] = recordAheadOf(looked);
                if (looked.kind != CHANGE) {
                    continue;
                }
                boolean stands = tree.find(looked.key) && tellUndo(looked) && tree.perform(log.last);
                for (int ups = 0; ups < PAGES && stands && tree.endIsBare(); ups++) {
                    int bare = tree.end();
                    stands = tree.goes(bare, tree.stepUp());
                }
                if (!stands) {
                    return false;
                }
                made++;
            }
            return true;
        }

        /** Who has nothing left above the place comes first, then who has the latest record. */
        private int nextTransaction(int place) {
            int found = NONE;
            for (int transaction = 0; transaction < TRANSACTIONS; transaction++) {
                if (next[transaction] == NONE) {
                    continue;
                }
                if (next[transaction] <= place) {
                    return transaction;
                }
                if (found == NONE || next[transaction] > next[found]) {
                    found = transaction;
                }
            }
            return found;
        }

        /** What is to be looked at behind a record: an UNDO leads past what it has undone. */
        private int recordAheadOf(LogRecord looked) {
            LogRecord undone = looked.kind == UNDO ? log.at(looked.undone) : null;
            return undone == null ? looked.ahead : undone.ahead;
        }

        private boolean tellUndo(LogRecord change) {
            LogRecord record = log.append(UNDO, change.who);
            if (record == null) {
                return false;
            }
            record.key = change.key;
            record.becomes = change.was;
            record.undone = change.number;
            record.tellLeaf(tree.end());
            return true;
        }

        private boolean end(int transaction) {
            if (log.append(END, transaction) == null) {
                return false;
            }
            transactions.finish(transaction);
            return true;
        }
    }

    /** What recover() does ahead of undoing. */
    private static final class Recovery {
        private final Disk disk;
        private final Log log;
        private final Cache cache;
        private final Tree tree;
        private final Transactions transactions;
        /** The record that changed a page first since it differs, as far as the log tells; 0 if it does not. */
        private final int[] first = new int[PAGES];
        /** What pass() tells. */
        final int[] counts = new int[PASS_COUNTS];

        Recovery(Disk disk, Log log, Cache cache, Tree tree, Transactions transactions) {
            this.disk = disk;
            this.log = log;
            this.cache = cache;
            this.tree = tree;
            this.transactions = transactions;
        }

        void begin() {
            for (int what = 0; what < PASS_COUNTS; what++) {
                counts[what] = 0;
            }
        }

        boolean mend() {
            if (!disk.spareMends()) {
                return true;
            }
            counts[MENDED_HALVES] = disk.mendFromSpare();
            return counts[MENDED_HALVES] == 2;
        }

        /** The first pass: finds who is open, with the latest records, and which pages differ. */
        void readLog() {
            for (int page = 0; page < PAGES; page++) {
                first[page] = 0;
            }
            transactions.clear();
            int from = latestMark();
            LogRecord mark = log.at(from);
            if (mark != null && mark.kind == MARK) {
                believe(mark);
            }
            for (int number = from; number <= log.last; number++) {
                LogRecord record = log.at(number);
                if (record != null) {
                    readRecord(record, number);
                    counts[READ_RECORDS]++;
                }
            }
        }

        /** The latest MARK, or the beginning. */
        private int latestMark() {
            for (int number = log.last; number > 1; number--) {
                LogRecord record = log.at(number);
                if (record != null && record.kind == MARK) {
                    return number;
                }
            }
            return 1;
        }

        private void believe(LogRecord mark) {
            for (int transaction = 0; transaction < TRANSACTIONS; transaction++) {
                transactions.latest[transaction] = mark.toldLatest(transaction);
            }
            for (int page = 0; page < PAGES; page++) {
                first[page] = mark.toldFirst(page);
            }
        }

        private void readRecord(LogRecord record, int number) {
            if (record.who >= 0 && record.who < TRANSACTIONS) {
                boolean ended = record.kind == COMMIT || record.kind == END;
                transactions.latest[record.who] = ended ? 0 : number;
            }
            for (int at = 0; at < record.pages; at++) {
                int page = record.pageAt(at);
                if (page >= 0 && page < PAGES && first[page] == 0) {
                    first[page] = number;
                }
            }
        }

        /** The second pass: does again what did not come to the disk. */
        boolean redo() {
            for (int number = leastFirst(); number <= log.last; number++) {
                LogRecord record = log.at(number);
                for (int at = 0; record != null && at < record.pages; at++) {
                    if (!redoPage(record, at, number)) {
                        return false;
                    }
                }
            }
            return true;
        }

        /** The least of the first records; behind all if no page differs. */
        private int leastFirst() {
            int least = log.last + 1;
            for (int page = 0; page < PAGES; page++) {
                if (first[page] > 0 && first[page] < least) {
                    least = first[page];
                }
            }
            return least;
        }

        private boolean redoPage(LogRecord record, int at, int number) {
            int page = record.pageAt(at);
            if (page < 0 || page >= PAGES || first[page] == 0 || first[page] > number) {
                return true;
            }
            if (!cache.use(page)) {
                return false;
            }
            Page there = cache.seen(page);
            if (there != null && there.number < number) {
                cache.toChange(page, number);
                record.changePage(at, there);
                counts[REDONE_CHANGES]++;
            }
            return true;
        }

        /** Ends what small actions the crash cut off: none may be left half done when undoing begins. */
        boolean tidy() {
            for (int round = 0; round <= PAGES; round++) {
                int page = tree.lowestUnsettled();
                if (page == NONE) {
                    return true;
                }
                int parent = page == ROOT ? NONE : tree.parentOf(page);
                if (page != ROOT && parent == NONE) {
                    return true;
                }
                if (!tree.goes(page, parent)) {
                    return false;
                }
            }
            return true;
        }
    }

    /** Walks the pages as they are seen, without any use. */
    private static final class Walk {
        private static final int TORN = 1;
        private static final int MET_AGAIN = 2;
        private static final int UNLIKE_KEYS = 3;
        private static final int UNLIKE_DEPTHS = 4;
        private static final int BARE = 5;
        private static final int NOT_MET = 6;
        private static final int NO_FAULT = 7;

        private final Cache cache;
        private final Log log;
        private final Transactions transactions;
        /** The pages that were come to, in that order, each with its depth, its least key and the one behind all. */
        private final int[] met = new int[PAGES];
        private final int[] depths = new int[PAGES];
        private final int[] lows = new int[PAGES];
        private final int[] highs = new int[PAGES];
        private final boolean[] isMet = new boolean[PAGES];
        private int metCount;
        private int leafDepth;
        private int least;

        Walk(Cache cache, Log log, Transactions transactions) {
            this.cache = cache;
            this.log = log;
            this.transactions = transactions;
        }

        boolean agreesWithLog() {
            int[] due = log.committedValues();
            for (int key = 0; key < KEYS; key++) {
                if (transactions.holders[key] == NONE) {
                    Page leaf = leafOf(key);
                    if (leaf == null || leaf.valueOf(key) != due[key]) {
                        return false;
                    }
                }
            }
            return true;
        }

        /** The leaf of a key; null if one cannot come to it. */
        private Page leafOf(int key) {
            int page = ROOT;
            for (int depth = 0; depth < PAGES; depth++) {
                Page there = cache.seen(page);
                if (there == null || there.kind == FREE) {
                    return null;
                }
                if (there.kind == LEAF) {
                    return there;
                }
                page = there.childFor(key);
            }
            return null;
        }

        int leastFault() {
            for (int page = 0; page < PAGES; page++) {
                isMet[page] = false;
            }
            metCount = 0;
            leafDepth = NONE;
            least = NO_FAULT;
            meet(ROOT, 0, 0, KEYS);
            for (int at = 0; at < metCount && at < PAGES; at++) {
                lookInto(at);
            }
            for (int page = 0; page < PAGES; page++) {
                int kind = cache.kindSeen(page);
                if (!isMet[page] && kind != NONE && kind != FREE) {
                    fault(NOT_MET);
                }
            }
            return least == NO_FAULT ? 0 : least;
        }

        private void fault(int what) {
            if (what < least) {
                least = what;
            }
        }

        private void meet(int page, int depth, int low, int high) {
            if (page < 0 || page >= PAGES || isMet[page] || metCount >= PAGES) {
                fault(MET_AGAIN);
                return;
            }
            isMet[page] = true;
            met[metCount] = page;
            depths[metCount] = depth;
            lows[metCount] = low;
            highs[metCount] = high;
            metCount++;
        }

        private void lookInto(int at) {
            Page there = cache.seen(met[at]);
            if (there == null) {
                fault(TORN);
            } else if (there.kind == FREE) {
                fault(MET_AGAIN);
            } else if (there.kind == LEAF) {
                lookIntoLeaf(at, there);
            } else {
                lookIntoInner(at, there);
            }
        }

        private void lookIntoLeaf(int at, Page leaf) {
            if (leafDepth != NONE && leafDepth != depths[at]) {
                fault(UNLIKE_DEPTHS);
            }
            leafDepth = depths[at];
            if (leaf.count == 0 && met[at] != ROOT) {
                fault(BARE);
            }
            for (int i = 0; i < leaf.count; i++) {
                int key = leaf.keyAt(i);
                if (key < lows[at] || key >= highs[at] || i > 0 && key <= leaf.keyAt(i - 1)) {
                    fault(UNLIKE_KEYS);
                }
            }
        }

        private void lookIntoInner(int at, Page inner) {
            if (inner.count == 0) {
                fault(BARE);
            }
            int low = lows[at];
            for (int i = 0; i < inner.count; i++) {
                boolean isLast = i + 1 >= inner.count;
                int high = isLast ? highs[at] : inner.keyAt(i + 1);
                // The keys of an inner page, too, are beneath the children of the pages above it.
                if (!isLast && (high < low || high >= highs[at])) {
                    fault(UNLIKE_KEYS);
                }
                meet(inner.childAt(i), depths[at] + 1, low, high);
                low = high;
            }
        }
    }
}
