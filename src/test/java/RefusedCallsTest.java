/**
 * Every sentence of the document that tells a call to throw: what is out of range by one and by far, the wrong times,
 * which exception comes first, and that nothing has changed.
 */
public final class RefusedCallsTest extends Checks {
    private static final int LEAST = Integer.MIN_VALUE;
    private static final int MOST = Integer.MAX_VALUE;
    private static final int[] NO_TRANSACTIONS = {LEAST, -1, 4, 5, MOST};
    private static final int[] NO_KEYS = {LEAST, -1, 32, 33, MOST};
    private static final int[] NO_VALUES = {LEAST, -1, 1000, 1001, MOST};
    private static final int[] NO_PAGES = {LEAST, -1, 24, 25, MOST};
    private static final int[] NO_FRAMES = {LEAST, -1, 4, 5, MOST};
    private static final int[] NO_WRITES = {LEAST, -1, 1000, 1001, MOST};

    private static final Class<IllegalArgumentException> ARGUMENT = IllegalArgumentException.class;
    private static final Class<IllegalStateException> STATE = IllegalStateException.class;
    private static final Class<IndexOutOfBoundsException> INDEX = IndexOutOfBoundsException.class;

    /** 0 and 1 are open with records, 1 waits for 0, 2 is open without records, 3 is not open. */
    private static PageLoom busy() {
        PageLoom x = committedWith(upTo(9));
        x.open(0);
        x.open(1);
        x.open(2);
        x.put(0, 3, 33);
        x.mark();
        x.take(1, 8);
        due("1 waits", x.read(1, 3), PageLoom.WAITS);
        return x;
    }

    private static PageLoom fallen() {
        PageLoom x = busy();
        x.crash();
        return x;
    }

    /** As busy(), when the log has so many records. */
    private static PageLoom longLog(int records) {
        PageLoom x = busy();
        for (int record = x.records(); record < records; record++) {
            x.put(2, 20, 1);
        }
        due("records", x.records(), records);
        return x;
    }

    private static void refusedEverywhere(String what, Class<? extends RuntimeException> want, int[] wrong,
            CallWith call) {
        PageLoom[] objects = {new PageLoom(), busy(), fallen(), longLog(200)};
        for (PageLoom x : objects) {
            for (int argument : wrong) {
                refusedAndNothingChanged(what + " " + argument, want, x, () -> call.now(x, argument));
            }
        }
    }

    private static void refusedBehindACrash(String what, CallWith call) {
        PageLoom x = fallen();
        for (int argument = 0; argument < 4; argument++) {
            int with = argument;
            refusedAndNothingChanged(what + " behind a crash", STATE, x, () -> call.now(x, with));
        }
        // So many pages are changed again that some are written.
        PageLoom y = committedWith(upTo(16));
        y.crash();
        y.crashAt(1);
        due("recover() is not done", y.recover(), PageLoom.CRASHED);
        refusedAndNothingChanged(what + " behind a recover() that was not done", STATE, y, () -> call.now(y, 1));
        due("recover() is done", y.recover(), 0);
        y.open(1);
        y.crash();
        refusedAndNothingChanged(what + " behind one more crash", STATE, y, () -> call.now(y, 1));
    }

    private static void refusedWhenNotOpen(String what, CallWith call) {
        PageLoom x = busy();
        refusedAndNothingChanged(what + " of 3, never opened", STATE, x, () -> call.now(x, 3));
        x.commit(0);
        refusedAndNothingChanged(what + " of 0, committed", STATE, x, () -> call.now(x, 0));
        x.undo(2);
        refusedAndNothingChanged(what + " of 2, undone", STATE, x, () -> call.now(x, 2));
        x.crash();
        x.recover();
        refusedAndNothingChanged(what + " of 1, open ahead of a crash", STATE, x, () -> call.now(x, 1));
    }

    // ---- out of range

    private static void noSuchTransaction() {
        refusedEverywhere("open", ARGUMENT, NO_TRANSACTIONS, (x, t) -> open(x, t));
    }

    private static void putOutOfRange() {
        refusedEverywhere("put of transaction", ARGUMENT, NO_TRANSACTIONS, (x, t) -> x.put(t, 0, 0));
        refusedEverywhere("put of key", ARGUMENT, NO_KEYS, (x, key) -> x.put(0, key, 0));
        refusedEverywhere("put of value", ARGUMENT, NO_VALUES, (x, value) -> x.put(0, 0, value));
        refusedEverywhere("put of one not open and key", ARGUMENT, NO_KEYS, (x, key) -> x.put(3, key, 0));
        refusedEverywhere("put of one not open and value", ARGUMENT, NO_VALUES, (x, value) -> x.put(3, 0, value));
        refusedEverywhere("put by one that waits, and key", ARGUMENT, NO_KEYS, (x, key) -> x.put(1, key, 0));
        PageLoom x = with(3, 0);
        due("the least of all", x.put(3, 0, 0), 0);
        due("the greatest of all", x.put(3, 31, 999), 0);
        dueCells(x, 0, 1, "0 31999");
    }

    private static void takeOutOfRange() {
        refusedEverywhere("take of transaction", ARGUMENT, NO_TRANSACTIONS, (x, t) -> x.take(t, 0));
        refusedEverywhere("take of key", ARGUMENT, NO_KEYS, (x, key) -> x.take(0, key));
        refusedEverywhere("take of one not open and key", ARGUMENT, NO_KEYS, (x, key) -> x.take(3, key));
        PageLoom x = with(3, 0, 31);
        due("the least key", x.take(3, 0), 0);
        due("the greatest key", x.take(3, 31), 31);
    }

    private static void readOutOfRange() {
        refusedEverywhere("read of transaction", ARGUMENT, NO_TRANSACTIONS, (x, t) -> x.read(t, 0));
        refusedEverywhere("read of key", ARGUMENT, NO_KEYS, (x, key) -> x.read(0, key));
        refusedEverywhere("read of one not open and key", ARGUMENT, NO_KEYS, (x, key) -> x.read(3, key));
        PageLoom x = with(3, 0, 31);
        due("the least key", x.read(3, 0), 0);
        due("the greatest key", x.read(3, 31), 31);
    }

    private static void placeOutOfRange() {
        refusedEverywhere("place of transaction", ARGUMENT, NO_TRANSACTIONS, (x, t) -> x.place(t));
    }

    private static void backOutOfRange() {
        refusedEverywhere("back of transaction", ARGUMENT, NO_TRANSACTIONS, (x, t) -> x.back(t, 0));
        refusedEverywhere("back to a place", ARGUMENT, new int[] {LEAST, -1, 1000, MOST}, (x, at) -> x.back(0, at));
        refusedEverywhere("back right behind the log", ARGUMENT, new int[] {1}, (x, one) -> x.back(0, x.records() + one));
        refusedEverywhere("back of one not open", ARGUMENT, new int[] {1}, (x, one) -> x.back(3, x.records() + one));
        PageLoom x = new PageLoom();
        x.open(0);
        refusedAndNothingChanged("back to 1 in an empty log", ARGUMENT, x, () -> x.back(0, 1));
        due("back to 0 in an empty log", x.back(0, 0), 0);
        x.put(0, 1, 1);
        due("back to the latest record", x.back(0, 1), 0);
        due("back to 0", x.back(0, 0), 1);
    }

    private static void commitOutOfRange() {
        refusedEverywhere("commit of transaction", ARGUMENT, NO_TRANSACTIONS, (x, t) -> x.commit(t));
    }

    private static void undoOutOfRange() {
        refusedEverywhere("undo of transaction", ARGUMENT, NO_TRANSACTIONS, (x, t) -> x.undo(t));
    }

    private static void noSuchPageToWrite() {
        refusedEverywhere("write of page", INDEX, NO_PAGES, (x, page) -> x.write(page));
        PageLoom x = busy();
        due("the greatest page", x.write(23), 0);
    }

    private static void crashAtOutOfRange() {
        refusedEverywhere("crashAt", ARGUMENT, NO_WRITES, (x, write) -> crashAt(x, write));
        PageLoom x = with(0, 5);
        x.crashAt(2);
        wrongArgument("crashAt(1000)", () -> crashAt(x, 1000));
        wrongArgument("crashAt(-1)", () -> crashAt(x, -1));
        due("what was told before stays told", x.commit(0), PageLoom.CRASHED);
        due("ahead of the second write", x.durable(), 1);
    }

    private static void noSuchCount() {
        refusedEverywhere("pass", ARGUMENT, new int[] {LEAST, -1, 4, 5, MOST}, (x, what) -> x.pass(what));
    }

    private static void noSuchPage() {
        refusedEverywhere("page", INDEX, NO_PAGES, (x, page) -> x.page(page, 0));
        refusedEverywhere("page", INDEX, NO_PAGES, (x, page) -> x.page(page, 3));
    }

    private static void noSuchThingOfAPage() {
        refusedEverywhere("page, what", ARGUMENT, new int[] {LEAST, -1, 4, 5, MOST}, (x, what) -> x.page(0, what));
        refusedEverywhere("page 23, what", ARGUMENT, new int[] {-1, 4}, (x, what) -> x.page(23, what));
    }

    private static void bothWrong() {
        refusedEverywhere("page with both wrong", INDEX, NO_PAGES, (x, both) -> x.page(both, -1));
        refusedEverywhere("frame with both wrong", INDEX, NO_FRAMES, (x, both) -> x.frame(both, 3));
        refusedEverywhere("record with both wrong", INDEX, new int[] {LEAST, -1, 5}, (x, what) -> x.record(0, what));
        PageLoom x = fallen();
        refusedAndNothingChanged("open", ARGUMENT, x, () -> open(x, 4));
        refusedAndNothingChanged("put", ARGUMENT, x, () -> x.put(0, 0, 1000));
        refusedAndNothingChanged("take", ARGUMENT, x, () -> x.take(0, 32));
        refusedAndNothingChanged("read", ARGUMENT, x, () -> x.read(0, 32));
        refusedAndNothingChanged("place", ARGUMENT, x, () -> x.place(4));
        refusedAndNothingChanged("back", ARGUMENT, x, () -> x.back(0, x.records() + 1));
        refusedAndNothingChanged("commit", ARGUMENT, x, () -> x.commit(-1));
        refusedAndNothingChanged("undo", ARGUMENT, x, () -> x.undo(-1));
        refusedAndNothingChanged("write", INDEX, x, () -> x.write(24));
    }

    private static void noSuchEntry() {
        refusedEverywhere("entry of page", INDEX, NO_PAGES, (x, page) -> x.entry(page, 0));
        refusedEverywhere("entry at", INDEX, new int[] {LEAST, -2, -1}, (x, at) -> x.entry(0, at));
        refusedEverywhere("entry of a free page at", INDEX, new int[] {LEAST, -1}, (x, at) -> x.entry(23, at));
        for (int at : new int[] {32, 33, 1000, MOST}) {
            due("at is never too great", busy().entry(0, at), PageLoom.NONE);
        }
    }

    private static void noSuchFrame() {
        refusedEverywhere("frame", INDEX, NO_FRAMES, (x, frame) -> x.frame(frame, 0));
    }

    private static void noSuchThingOfAFrame() {
        refusedEverywhere("frame, what", ARGUMENT, new int[] {LEAST, -1, 3, 4, MOST}, (x, what) -> x.frame(3, what));
    }

    private static void noSuchRecord() {
        refusedEverywhere("record", INDEX, new int[] {LEAST, -1, 0, 1000, MOST}, (x, record) -> x.record(record, 0));
        refusedEverywhere("record behind the latest", INDEX, new int[] {1}, (x, one) -> x.record(x.records() + one, 0));
    }

    private static void noSuchThingOfARecord() {
        PageLoom x = busy();
        for (int what : new int[] {LEAST, -1, 5, 6, MOST}) {
            for (int record : new int[] {1, x.records()}) {
                refusedAndNothingChanged("record, what " + what, ARGUMENT, x, () -> x.record(record, what));
            }
        }
    }

    private static void recordsThatAreGone() {
        PageLoom x = busy();
        int latest = x.records();
        x.crash();
        due("the latest one was not durable", x.records() < latest, true);
        refusedAndNothingChanged("a record that is gone", INDEX, x, () -> x.record(latest, 0));
    }

    private static void noSuchKeyToHold() {
        refusedEverywhere("holder", ARGUMENT, NO_KEYS, (x, key) -> x.holder(key));
    }

    private static void nobodyToWait() {
        refusedEverywhere("waitsFor", ARGUMENT, NO_TRANSACTIONS, (x, t) -> x.waitsFor(t));
    }

    private static void noSuchPlainKey() {
        refusedEverywhere("plain", ARGUMENT, NO_KEYS, (x, key) -> x.plain(key));
    }

    // ---- at the wrong time

    private static void whenOpen() {
        PageLoom x = busy();
        for (int t = 0; t < 3; t++) {
            int which = t;
            refusedAndNothingChanged("open of " + t, STATE, x, () -> open(x, which));
        }
        x.open(3);
        refusedAndNothingChanged("open of 3", STATE, x, () -> open(x, 3));
        refusedBehindACrash("open", (y, t) -> open(y, t));
    }

    private static void whenNotOpen() {
        refusedWhenNotOpen("put", (x, t) -> x.put(t, 0, 0));
        refusedBehindACrash("put", (x, t) -> x.put(t, 0, 0));
    }

    private static void takingWhenNotOpen() {
        refusedWhenNotOpen("take", (x, t) -> x.take(t, 0));
        refusedBehindACrash("take", (x, t) -> x.take(t, 0));
    }

    private static void readingWhenNotOpen() {
        refusedWhenNotOpen("read", (x, t) -> x.read(t, 0));
        refusedBehindACrash("read", (x, t) -> x.read(t, 0));
    }

    private static void placeWhenNotOpen() {
        refusedWhenNotOpen("place", (x, t) -> x.place(t));
        refusedBehindACrash("place", (x, t) -> x.place(t));
    }

    private static void backWhenNotOpen() {
        refusedWhenNotOpen("back", (x, t) -> x.back(t, 0));
        refusedBehindACrash("back", (x, t) -> x.back(t, 0));
    }

    private static void commitWhenNotOpen() {
        refusedWhenNotOpen("commit", (x, t) -> x.commit(t));
        refusedBehindACrash("commit", (x, t) -> x.commit(t));
    }

    private static void undoWhenNotOpen() {
        refusedWhenNotOpen("undo", (x, t) -> x.undo(t));
        refusedBehindACrash("undo", (x, t) -> x.undo(t));
    }

    private static void victimsAreNotOpen() {
        PageLoom x = with(0, 0);
        x.open(1);
        x.put(1, 1, 1);
        x.put(0, 2, 2);
        due("waits", x.put(0, 1, 0), PageLoom.WAITS);
        due("the victim", x.put(1, 0, 0), PageLoom.VICTIM);
        refusedAndNothingChanged("put of a victim", STATE, x, () -> x.put(1, 5, 5));
        refusedAndNothingChanged("undo of a victim", STATE, x, () -> x.undo(1));
        x.open(1);
        due("opened again", x.put(1, 5, 5), 0);
    }

    private static void longLogs() {
        PageLoom x = longLog(199);
        due("put with 199", x.put(0, 3, 34), 0);
        PageLoom y = longLog(199);
        due("take with 199", y.take(0, 4), 4);
        PageLoom z = longLog(199);
        due("mark with 199", z.mark(), 200);
        for (PageLoom full : new PageLoom[] {x, y, z}) {
            due("records", full.records(), 200);
            refusedAndNothingChanged("put with 200", STATE, full, () -> full.put(0, 3, 35));
            refusedAndNothingChanged("put with 200 of a locked key", STATE, full, () -> full.put(1, 3, 35));
            refusedAndNothingChanged("take with 200", STATE, full, () -> full.take(0, 3));
            refusedAndNothingChanged("take with 200 of a key that is not there", STATE, full, () -> full.take(0, 30));
            refusedAndNothingChanged("mark with 200", STATE, full, () -> full.mark());
        }
    }

    /** SPLITs and a CHANGE come when the log has 199 records: the limit is looked at ahead of the call alone. */
    private static void longerLogs() {
        PageLoom x = longLog(198);
        // The root has 4 children, and the leaf behind has 6, 7, 20 and then 9.
        due("put with 198", x.put(2, 9, 9), 0);
        due("put with 199", x.put(2, 10, 10), 0);
        dueKinds(x, 199, 0, 5, 5, 0);
        refusedAndNothingChanged("put with 202", STATE, x, () -> x.put(2, 9, 9));
        refusedAndNothingChanged("take with 202", STATE, x, () -> x.take(2, 9));
        refusedAndNothingChanged("mark with 202", STATE, x, () -> x.mark());
    }

    private static void whatALongLogAllows() {
        PageLoom x = longLog(200);
        x.open(3);
        due("read", x.read(3, 31), PageLoom.NONE);
        due("place", x.place(0), 14);
        due("back", x.back(0, 0), 1);
        due("commit", x.commit(0), 202);
        due("undo", x.undo(1), 1);
        due("write", x.write(0) >= 0, true);
        x.crash();
        due("recover", x.recover(), 0);
        refused("put behind recover()", STATE, () -> x.put(3, 0, 0));
        x.open(3);
        wrongState("put with 200 or more", () -> x.put(3, 0, 0));
    }

    private static void markBehindACrash() {
        refusedBehindACrash("mark", (x, any) -> x.mark());
    }

    private static void writeBehindACrash() {
        refusedBehindACrash("write", (x, page) -> x.write(page));
        PageLoom x = fallen();
        refusedAndNothingChanged("write(-1)", INDEX, x, () -> x.write(-1));
    }

    private static void recoverWithoutACrash() {
        PageLoom x = new PageLoom();
        refusedAndNothingChanged("recover of a new object", STATE, x, () -> x.recover());
        PageLoom y = busy();
        refusedAndNothingChanged("recover without a crash", STATE, y, () -> y.recover());
        y.crashAt(1);
        refusedAndNothingChanged("recover when a crash is only told", STATE, y, () -> y.recover());
        due("crashed", y.commit(0), PageLoom.CRASHED);
        due("recover", y.recover(), 0);
        refusedAndNothingChanged("recover when it is done", STATE, y, () -> y.recover());
        y.crash();
        due("recover", y.recover(), 0);
        refusedAndNothingChanged("recover when it is done once more", STATE, y, () -> y.recover());
    }

    /** What is asked, and what tells or makes a crash, is answered behind a crash, too. */
    private static void whatIsAllowedBehindACrash() {
        PageLoom x = fallen();
        x.crashAt(0);
        x.crash();
        for (int i = 0; i < 4; i++) {
            due("pass", x.pass(i), 0);
            due("waitsFor", x.waitsFor(i), PageLoom.NONE);
            due("frame", x.frame(i, 0), PageLoom.NONE);
        }
        due("page", x.page(0, 1), 11);
        due("entry", x.entry(0, 1), 202);
        due("hand", x.hand(), 0);
        due("records", x.records(), x.durable());
        due("record", x.record(1, 0), 0);
        due("writes", x.writes() > 0, true);
        due("holder", x.holder(3), PageLoom.NONE);
        due("plain", x.plain(3), 3);
        due("agrees", x.agrees(), false);
        due("check", x.check() >= 0, true);
    }

    /** A call that is refused does not come nearer to the crash that was told, nor ends a transaction. */
    private static void nothingElseHasChanged() {
        PageLoom x = with(0, 5, 6);
        x.crashAt(3);
        wrongArgument("put", () -> x.put(0, 32, 0));
        wrongState("commit", () -> x.commit(1));
        wrongIndex("write", () -> x.write(24));
        wrongState("recover", () -> x.recover());
        due("0 is open, and has its records", x.place(0), 2);
        due("two writes were done ahead of the crash", x.commit(0), PageLoom.CRASHED);
        due("durable", x.durable(), 2);
    }

    private static void outOfRange() {
        String transaction = "IllegalArgumentException if transaction is out of range";
        String key = "IllegalArgumentException if transaction or key is out of range";
        edge(2, transaction, RefusedCallsTest::noSuchTransaction);
        edge(3, "IllegalArgumentException if transaction, key or value is out of range",
                RefusedCallsTest::putOutOfRange);
        edge(4, key, RefusedCallsTest::takeOutOfRange);
        edge(5, key, RefusedCallsTest::readOutOfRange);
        edge(6, transaction, RefusedCallsTest::placeOutOfRange);
        edge(7, "IllegalArgumentException if transaction or place is out of range", RefusedCallsTest::backOutOfRange);
        edge(8, transaction, RefusedCallsTest::commitOutOfRange);
        edge(9, transaction, RefusedCallsTest::undoOutOfRange);
        edge(11, "IndexOutOfBoundsException if there is no such page", RefusedCallsTest::noSuchPageToWrite);
        edge(12, "IllegalArgumentException if write is out of range", RefusedCallsTest::crashAtOutOfRange);
        edge(15, "IllegalArgumentException if what is out of range", RefusedCallsTest::noSuchCount);
        edge(16, "IndexOutOfBoundsException if there is no such page", RefusedCallsTest::noSuchPage);
        edge(16, "IllegalArgumentException if what is out of range", RefusedCallsTest::noSuchThingOfAPage);
        edge(16, "of several exceptions it is the first one of the throws clause", RefusedCallsTest::bothWrong);
        edge(17, "IndexOutOfBoundsException if there is no such page, or at is below 0", RefusedCallsTest::noSuchEntry);
        edge(18, "IndexOutOfBoundsException if there is no such frame", RefusedCallsTest::noSuchFrame);
        edge(18, "IllegalArgumentException if what is out of range", RefusedCallsTest::noSuchThingOfAFrame);
        edge(20, "IndexOutOfBoundsException if there is no such record", RefusedCallsTest::noSuchRecord);
        edge(20, "IllegalArgumentException if what is out of range", RefusedCallsTest::noSuchThingOfARecord);
        edge(20, "all records that are not durable are gone", RefusedCallsTest::recordsThatAreGone);
        edge(24, "IllegalArgumentException if key is out of range", RefusedCallsTest::noSuchKeyToHold);
        edge(25, transaction, RefusedCallsTest::nobodyToWait);
        edge(26, "IllegalArgumentException if key is out of range", RefusedCallsTest::noSuchPlainKey);
    }

    private static void atTheWrongTime() {
        String notOpen = "IllegalStateException as told behind a crash; or if it is not open";
        edge(2, "IllegalStateException as told behind a crash; or if it is open", RefusedCallsTest::whenOpen);
        edge(3, notOpen, RefusedCallsTest::whenNotOpen);
        edge(3, "or if it is not open, or the log has 200 records or more", RefusedCallsTest::longLogs);
        edge(3, "the log has 200 records or more", RefusedCallsTest::longerLogs);
        edge(4, "IllegalStateException as for put()", RefusedCallsTest::takingWhenNotOpen);
        edge(5, notOpen, RefusedCallsTest::readingWhenNotOpen);
        edge(5, notOpen, RefusedCallsTest::whatALongLogAllows);
        edge(6, notOpen, RefusedCallsTest::placeWhenNotOpen);
        edge(7, notOpen, RefusedCallsTest::backWhenNotOpen);
        edge(8, notOpen, RefusedCallsTest::commitWhenNotOpen);
        edge(9, notOpen, RefusedCallsTest::undoWhenNotOpen);
        edge(9, "it is undone and ends", RefusedCallsTest::victimsAreNotOpen);
        edge(10, "IllegalStateException as told behind a crash; or if the log has 200 records or more",
                RefusedCallsTest::markBehindACrash);
        edge(11, "IllegalStateException as told behind a crash", RefusedCallsTest::writeBehindACrash);
        edge(14, "IllegalStateException if there was no crash, or it is done", RefusedCallsTest::recoverWithoutACrash);
        edge(14, "Behind a crash, until recover() is done, all that uses pages, transactions or the log throws",
                RefusedCallsTest::whatIsAllowedBehindACrash);
        edge(14, "When a call throws, nothing has changed", RefusedCallsTest::nothingElseHasChanged);
    }

    public static void main(String[] args) {
        outOfRange();
        atTheWrongTime();
        end();
    }
}
