/** The edges of recovery: halves, MARKs, passes that have nothing to do or are cut off, and the checks that walk all. */
public final class RecoveryEdgesTest extends Checks {
    private static final int UNDO = 1, COMMIT = 2, END = 3, MARK = 4, GO = 6, TAKE_OVER = 7;

    private static void dueRecovery(PageLoom x, int read, int changed, int undone, int mended) {
        due("recover", x.recover(), 0);
        duePasses(x, read, changed, undone, mended);
    }

    private static void duePasses(PageLoom x, int read, int changed, int undone, int mended) {
        due("records read", x.pass(0), read);
        due("changes done", x.pass(1), changed);
        due("UNDOs made", x.pass(2), undone);
        due("halves mended", x.pass(3), mended);
    }

    /** Makes the log durable up to a record, and no further, by a crash. */
    private static void cutBehind(PageLoom x, int record) {
        x.open(3);
        x.crashAt(record - x.durable() + 1);
        due("commit", x.commit(3), PageLoom.CRASHED);
        due("records", x.records(), record);
    }

    // ---- nothing to do

    private static void anEmptyLog() {
        PageLoom x = new PageLoom();
        x.crash();
        dueRecovery(x, 0, 0, 0, 0);
        due("records", x.records(), 0);
        due("writes", x.writes(), 0);
        due("nothing is used", x.frame(0, 0), PageLoom.NONE);
        dueSound(x);
        x.open(0);
        due("all was gone", x.put(0, 5, 5), 0);
        x.crash();
        dueRecovery(x, 0, 0, 0, 0);
        due("again", x.plain(5), PageLoom.NONE);
        dueSound(x);
    }

    private static void withoutRecover() {
        PageLoom x = new PageLoom();
        duePasses(x, 0, 0, 0, 0);
        x.open(0);
        x.put(0, 5, 5);
        x.commit(0);
        x.crash();
        duePasses(x, 0, 0, 0, 0);
        dueRecovery(x, 2, 1, 0, 0);
        x.open(0);
        x.put(0, 5, 6);
        x.undo(0);
        duePasses(x, 2, 1, 0, 0);
    }

    private static void nothingIsUsed() {
        PageLoom x = committedWith(upTo(11));
        writeAll(x);
        x.open(0);
        x.read(0, 3);
        int mark = x.mark();
        x.crash();
        int writes = x.writes();
        dueRecovery(x, 1, 0, 0, 0);
        due("records", x.records(), mark);
        due("writes", x.writes(), writes);
        dueFrames(x, -1, -1, -1, -1);
        due("hand", x.hand(), 0);
        dueSound(x);
    }

    // ---- halves that are mended

    private static PageLoom torn() {
        PageLoom x = committedWith(5);
        x.crashAt(4);
        due("write", x.write(0), PageLoom.CRASHED);
        due("halves of unlike writings", x.page(0, 0), PageLoom.NONE);
        due("writes", x.writes(), 2 + 3);
        return x;
    }

    private static void mending() {
        PageLoom x = torn();
        dueRecovery(x, 2, 0, 0, 2);
        due("writes", x.writes(), 5 + 2);
        due("it does not differ", x.frame(0, 2), 0);
        dueSound(x);
        x.crash();
        dueRecovery(x, 2, 0, 0, 0);
        due("writes", x.writes(), 7);
    }

    private static void mendingCutOff() {
        for (int write = 1; write <= 2; write++) {
            PageLoom x = torn();
            x.crashAt(write);
            due("recover", x.recover(), PageLoom.CRASHED);
            duePasses(x, 0, 0, 0, write - 1);
            due("writes", x.writes(), 5 + write - 1);
            due("unlike still", x.page(0, 0), PageLoom.NONE);
            x.crashAt(write);
            due("recover", x.recover(), PageLoom.CRASHED);
            dueRecovery(x, 2, 0, 0, 2);
            due("writes", x.writes(), 5 + 2 * (write - 1) + 2);
            dueSound(x);
        }
        PageLoom x = torn();
        x.crashAt(3);
        dueRecovery(x, 2, 0, 0, 2);
    }

    /** The spare's halves are unlike, or the page's are alike: nothing is mended. */
    private static void nothingToMend() {
        for (int write = 1; write <= 3; write++) {
            PageLoom x = committedWith(5);
            x.crashAt(write);
            due("write", x.write(0), PageLoom.CRASHED);
            dueRecovery(x, 2, 1, 0, 0);
            dueSound(x);
        }
        PageLoom x = committedWith(5);
        due("write", x.write(0), 1);
        x.crash();
        dueRecovery(x, 2, 0, 0, 0);
    }

    // ---- the first pass

    private static void marks() {
        PageLoom first = new PageLoom();
        first.mark();
        first.open(0);
        first.put(0, 1, 1);
        first.commit(0);
        first.crash();
        dueRecovery(first, 3, 1, 0, 0);
        PageLoom latest = with(0, 1);
        latest.mark();
        latest.put(0, 2, 2);
        latest.mark();
        latest.put(0, 3, 3);
        latest.commit(0);
        latest.crash();
        dueRecovery(latest, 3, 3, 0, 0);
        latest.mark();
        latest.crash();
        dueRecovery(latest, 1, 3, 0, 0);
        PageLoom none = with(0, 1, 2);
        none.commit(0);
        none.crash();
        dueRecovery(none, 3, 2, 0, 0);
    }

    /** The MARK tells nothing that differs; what an earlier one told, or an earlier recover() found, is over. */
    private static void marksMadeAnew() {
        PageLoom x = committedWith(5);
        x.crashAt(1);
        due("mark", x.mark(), PageLoom.CRASHED);
        dueRecovery(x, 2, 1, 0, 0);
        x.write(0);
        due("mark", x.mark(), 3);
        x.crash();
        dueRecovery(x, 1, 0, 0, 0);
        due("page 0 is not used", x.frame(0, 0), PageLoom.NONE);
        PageLoom y = committedWith(5);
        y.crash();
        dueRecovery(y, 2, 1, 0, 0);
        due("differs", y.frame(0, 2), 1);
        y.write(0);
        y.mark();
        y.crash();
        dueRecovery(y, 1, 0, 0, 0);
        due("page 0 is not used", y.frame(0, 0), PageLoom.NONE);
    }

    private static void marksThatAreNotDurable() {
        PageLoom x = with(0, 1);
        x.mark();
        x.put(0, 2, 2);
        x.crashAt(2);
        due("the CHANGE is durable", x.mark(), PageLoom.CRASHED);
        due("records", x.records(), 3);
        dueRecovery(x, 2, 2, 2, 0);
        due("nothing was committed", x.page(0, 2), 0);
        dueSound(x);
    }

    private static void openByTheMark() {
        PageLoom x = with(0, 1);
        x.mark();
        x.crash();
        dueRecovery(x, 1, 1, 1, 0);
        dueKinds(x, 3, UNDO, END);
        due("undone", x.record(3, 3), 1);
        due("of 0", x.record(4, 1), 0);
        PageLoom committed = with(0, 1);
        committed.mark();
        committed.commit(0);
        committed.crash();
        dueRecovery(committed, 2, 1, 0, 0);
        dueKinds(committed, 3, COMMIT);
        dueSound(committed);
    }

    private static void endedBehindTheMark() {
        PageLoom x = with(0, 1);
        x.mark();
        x.undo(0);
        dueKinds(x, 3, UNDO, END);
        cutBehind(x, 4);
        dueRecovery(x, 3, 2, 0, 0);
        due("no END more", x.records(), 4);
        dueSound(x);
        PageLoom y = with(0, 1);
        y.mark();
        y.undo(0);
        cutBehind(y, 3);
        dueRecovery(y, 2, 2, 0, 0);
        dueKinds(y, 4, END);
        dueSound(y);
    }

    private static void openedAgainBehindTheMark() {
        PageLoom x = with(0, 1, 2);
        x.mark();
        x.commit(0);
        x.open(0);
        x.put(0, 1, 9);
        x.open(2);
        x.put(2, 7, 7);
        x.open(1);
        due("commit", x.commit(1), 7);
        x.crash();
        dueRecovery(x, 5, 4, 2, 0);
        dueKinds(x, 8, UNDO, END, UNDO, END);
        due("2 first", x.record(8, 3), 6);
        due("then 0", x.record(10, 3), 5);
        due("what was committed stays", x.entry(0, 0), 1001);
        dueSound(x);
    }

    private static void endedAheadOfTheMark() {
        PageLoom x = with(0, 1);
        x.commit(0);
        x.open(0);
        x.put(0, 2, 2);
        x.undo(0);
        x.open(0);
        due("mark", x.mark(), 6);
        x.crash();
        dueRecovery(x, 1, 3, 0, 0);
        due("no record more", x.records(), 6);
        dueSound(x);
    }

    // ---- the second pass

    private static void pagesThatAreAsTheyShould() {
        PageLoom x = committedWith(5);
        x.write(0);
        x.crash();
        dueRecovery(x, 2, 0, 0, 0);
        due("used all the same", x.frame(0, 0), 0);
        due("used", x.frame(0, 1), 1);
        due("it does not differ", x.frame(0, 2), 0);
        due("hand", x.hand(), 1);
        PageLoom y = with(0, 5);
        y.write(0);
        putAll(y, 0, 6, 7);
        y.commit(0);
        y.crash();
        dueRecovery(y, 4, 2, 0, 0);
        due("it differs since the first one that was missing", y.frame(0, 2), 2);
        due("number", y.page(0, 1), 3);
    }

    /** A page that was written ahead of the MARK is not used for records ahead of its first one. */
    private static void firstRecordsThatAreGreater() {
        PageLoom x = committedWith(upTo(7));
        writeAll(x);
        x.open(1);
        x.put(1, 0, 9);
        x.put(1, 2, 9);
        x.put(1, 4, 9);
        x.write(2);
        x.mark();
        x.put(1, 2, 8);
        x.commit(1);
        x.crash();
        dueRecovery(x, 3, 3, 0, 0);
        dueFrames(x, 1, 3, 2, -1);
        dueUsed(x, 1, 1, 1, 0);
        dueFirst(x, 11, 13, 15, 0);
        due("hand", x.hand(), 3);
        dueSound(x);
    }

    private static void pagesByRisingNumbers() {
        PageLoom x = committedWith(upTo(5));
        x.crash();
        dueRecovery(x, 7, 4 + 3 + 1, 0, 0);
        dueFrames(x, 0, 1, 2, -1);
        dueFirst(x, 1, 5, 5, 0);
    }

    // ---- between the second and the third one

    /** The log ends behind one of the small actions that the take() of a last key needs. */
    private static void cutOffBehind(int done, int[] taken, int[] due, int crashes) {
        PageLoom x = committedWith(upTo(11));
        x.open(1);
        takeAll(x, 1, taken);
        writeAll(x);
        int last = x.records() + 1;
        takeAll(x, 1, 1);
        dueKinds(x, last + 1, due);
        cutBehind(x, last + done);
        for (int write = 1; write <= crashes; write++) {
            x.crashAt(write);
            due("recover", x.recover(), PageLoom.CRASHED);
            due("records read", x.pass(0), last + done);
            due("no UNDO", x.pass(2), 0);
            due("records", x.records(), last + done);
        }
        due("recover", x.recover(), 0);
        for (int i = 0; i < due.length; i++) {
            due("kind", x.record(last + 1 + i, 0), due[i]);
        }
        int undo = last + due.length + 1;
        due("then UNDOs", x.record(undo, 0), UNDO);
        due("of what came last", x.record(undo, 3), last);
        due("UNDOs made", x.pass(2), taken.length + 1);
        due("the END", x.record(x.records(), 0), END);
        dueSound(x);
        x.open(2);
        for (int key = 0; key < 11; key++) {
            due("read", x.read(2, key), key);
        }
    }

    private static void smallActionsCutOff() {
        int[] few = {2, 3, 0};
        for (int done = 0; done <= 3; done++) {
            cutOffBehind(done, few, new int[] {GO, GO, TAKE_OVER}, 0);
        }
        // With one page more to be taken over, the log is durable behind both GOs for the frame that it needs.
        int[] many = {2, 3, 4, 5, 6, 7, 0};
        for (int done = 2; done <= 4; done++) {
            cutOffBehind(done, many, new int[] {GO, GO, TAKE_OVER, TAKE_OVER}, 0);
        }
        // Ahead of the third pass there are 4 writes then, or more.
        for (int done = 2; done <= 3; done++) {
            cutOffBehind(done, many, new int[] {GO, GO, TAKE_OVER, TAKE_OVER}, 4);
        }
    }

    private static void smallActionsOfWhatWasCommitted() {
        PageLoom x = committedWith(upTo(5));
        x.open(1);
        takeAll(x, 1, 2, 3);
        x.commit(1);
        x.open(1);
        takeAll(x, 1, 4);
        int go = x.records() - 1;
        cutBehind(x, go);
        due("recover", x.recover(), 0);
        dueKinds(x, go + 1, TAKE_OVER, UNDO, END);
        dueSound(x);
    }

    // ---- the third pass

    private static void theLatestFirst() {
        PageLoom x = new PageLoom();
        for (int t = 0; t < 4; t++) {
            x.open(t);
        }
        int[] order = {2, 0, 1, 0, 2, 1, 0};
        for (int i = 0; i < order.length; i++) {
            x.put(order[i], 4 * order[i], i);
        }
        due("mark", x.mark(), 8);
        x.crash();
        due("recover", x.recover(), 0);
        dueKinds(x, 9, UNDO, UNDO, UNDO, UNDO, UNDO, END, UNDO, END, UNDO, END);
        int[][] want = {{9, 7}, {10, 6}, {11, 5}, {12, 4}, {13, 3}, {15, 2}, {17, 1}};
        for (int[] pair : want) {
            due("undone by " + pair[0], x.record(pair[0], 3), pair[1]);
        }
        due("END of 1", x.record(14, 1), 1);
        due("END of 0", x.record(16, 1), 0);
        due("END of 2", x.record(18, 1), 2);
        dueSound(x);
    }

    private static void nothingLeftToUndo() {
        PageLoom x = new PageLoom();
        x.open(0);
        x.open(1);
        x.open(2);
        x.put(1, 9, 9);
        x.put(0, 5, 5);
        x.put(0, 5, 6);
        x.back(0, 0);
        x.mark();
        x.crash();
        dueRecovery(x, 1, 5, 1, 0);
        dueKinds(x, 7, END, UNDO, END);
        due("0 has none left", x.record(7, 1), 0);
        due("1 has one", x.record(8, 3), 1);
        dueSound(x);
    }

    private static void undoneAheadOfTheCrash() {
        PageLoom x = committedWith(1);
        x.open(1);
        x.put(1, 1, 2);
        x.put(1, 1, 3);
        x.put(1, 1, 4);
        x.back(1, 3);
        cutBehind(x, 6);
        due("one UNDO is durable, the other one is not", x.record(6, 3), 5);
        dueRecovery(x, 6, 5, 2, 0);
        due("UNDO of 4", x.record(7, 3), 4);
        due("UNDO of 3", x.record(8, 3), 3);
        dueKinds(x, 9, END);
        dueSound(x);
    }

    private static void noSplitInRecovery() {
        PageLoom x = committedWith(upTo(4));
        x.open(1);
        takeAll(x, 1, upTo(4));
        x.open(2);
        putAll(x, 2, 4, 5, 6, 7);
        x.commit(2);
        x.crash();
        due("recover", x.recover(), 0);
        dueCells(x, 0, 1, "0 1001 2002 3003 4004 5005 6006 7007");
        dueSound(x);
    }

    private static void allAreEnded() {
        PageLoom x = new PageLoom();
        for (int t = 0; t < 4; t++) {
            x.open(t);
            x.put(t, t, t);
        }
        x.read(0, 1);
        x.mark();
        x.crash();
        due("recover", x.recover(), 0);
        for (int t = 0; t < 4; t++) {
            int which = t;
            wrongState("place", () -> x.place(which));
            due("waits", x.waitsFor(t), PageLoom.NONE);
            due("holder", x.holder(t), PageLoom.NONE);
            x.open(t);
            due("no records", x.place(t), 0);
        }
    }

    // ---- recover() that is cut off

    /** Looking for the child that the root takes over, the third pass writes a page, and the log up to its number. */
    private static void undosWithAllThatFollows() {
        for (int write = 1; write <= 14; write++) {
            PageLoom x = with(1, upTo(9));
            due("mark", x.mark(), 13);
            x.crash();
            x.crashAt(write);
            due("recover", x.recover(), PageLoom.CRASHED);
            // Page 2 has 4 changes that were missing, page 3 as many, and page 4 two.
            duePasses(x, 1, 4 + 4 + 2, 6, 0);
            due("durable", x.durable(), Math.min(13 + write - 1, 23));
            if (write > 10) {
                due("the seventh UNDO is durable", x.record(22, 0), UNDO);
                due("its GO, too", x.record(23, 0), GO);
                due("recover", x.recover(), 0);
                due("TAKE OVER", x.record(24, 0), TAKE_OVER);
                due("two are left", x.pass(2), 2);
                due("torn by the last write alone", x.pass(3), write == 14 ? 2 : 0);
            } else {
                due("recover", x.recover(), 0);
            }
            dueCells(x, 0, 1, "");
            dueSound(x);
        }
    }

    /** Leaves are to be changed again, and then to go, with more pages than there are frames. */
    private static PageLoom longWork() {
        PageLoom x = committedWith(upTo(8));
        x.open(1);
        x.open(2);
        takeAll(x, 1, 0, 1, 2);
        for (int key = 8; key < 24; key++) {
            due("put", x.put(key % 2 + 1, key, key), 0);
            if (key == 12) {
                x.mark();
            }
        }
        cutBehind(x, x.records());
        return x;
    }

    /** The further the crash, the more is done; nothing of a later pass ahead of all of the earlier one. */
    private static void passesCutOff() {
        PageLoom whole = longWork();
        int writes = whole.writes();
        due("recover", whole.recover(), 0);
        writes = whole.writes() - writes;
        due("there are many writes", writes > 20, true);
        int changes = 0;
        int undos = 0;
        for (int write = 1; write <= writes + 1; write++) {
            PageLoom x = longWork();
            x.crashAt(write);
            due("recover", x.recover(), write <= writes ? PageLoom.CRASHED : 0);
            due("records read", x.pass(0), whole.pass(0));
            due("changes are not fewer", x.pass(1) >= changes && x.pass(1) <= whole.pass(1), true);
            due("UNDOs are not fewer", x.pass(2) >= undos && x.pass(2) <= whole.pass(2), true);
            due("no UNDO ahead of a change", x.pass(2) == 0 || x.pass(1) == whole.pass(1), true);
            changes = x.pass(1);
            undos = x.pass(2);
            for (int tries = 0; write <= writes && tries < 60 && x.recover() == PageLoom.CRASHED; tries++) {
                x.crashAt(write);
            }
            dueSound(x);
        }
        due("all changes", changes, whole.pass(1));
        due("all UNDOs", undos, whole.pass(2));
    }

    private static void onceMore() {
        PageLoom x = longWork();
        int tries = 0;
        for (int write = 1; tries < 100; tries++) {
            x.crashAt(write);
            if (x.recover() == 0) {
                break;
            }
            due("what is left of the log is durable", x.records(), x.durable());
            due("hand", x.hand(), 0);
            dueFrames(x, -1, -1, -1, -1);
            write += 2;
        }
        due("done at last", tries > 1 && tries < 100, true);
        x.crashAt(0);
        dueSound(x);
        x.crash();
        due("recover", x.recover(), 0);
        dueSound(x);
        x.open(3);
        for (int key = 0; key < 24; key++) {
            due("read", x.read(3, key), key < 8 ? key : PageLoom.NONE);
        }
    }

    // ---- agrees() and check()

    private static void valuesOnTheDisk() {
        PageLoom extra = with(0, 5);
        due("locked", extra.agrees(), true);
        extra.write(0);
        extra.crash();
        due("not committed, but on the disk", extra.agrees(), false);
        extra.recover();
        due("recovered", extra.agrees(), true);
        PageLoom unlike = committedWith(5);
        unlike.open(0);
        unlike.put(0, 5, 6);
        unlike.write(0);
        unlike.crash();
        due("another value", unlike.agrees(), false);
        PageLoom missing = committedWith(0);
        missing.crash();
        due("value 0 is not none", missing.agrees(), false);
        PageLoom same = committedWith(5);
        same.write(0);
        same.crash();
        due("as the disk has it, without recover()", same.agrees(), true);
    }

    private static void noLeafToComeTo() {
        PageLoom free = committedWith(upTo(5));
        takeEverything(free, upTo(5));
        due("nothing is left", free.agrees(), true);
        PageLoom x = with(0, upTo(5));
        x.undo(0);
        x.open(0);
        putAll(x, 0, upTo(5));
        x.write(0);
        x.crash();
        due("no key is committed, but the children are free", x.agrees(), false);
        due("2", x.check(), 2);
        PageLoom torn = new PageLoom();
        torn.open(0);
        torn.put(0, 1, 1);
        torn.crashAt(1 + 4);
        torn.write(0);
        due("no key is committed, but the root is torn", torn.agrees(), false);
        due("1", torn.check(), 1);
        PageLoom bare = with(0, 4, 20, 5, 29, 12, 0, 31, 8, 21, 14, 13, 22);
        for (int i = 0; i < 2; i++) {
            bare.crash();
            bare.recover();
        }
        bare.crash();
        due("no key is committed, but an inner page has no children", bare.agrees(), false);
        due("5", bare.check(), 5);
    }

    private static void takeEverything(PageLoom x, int[] keys) {
        x.open(0);
        takeAll(x, 0, keys);
        x.commit(0);
    }

    private static void tornLeaves() {
        PageLoom x = committedWith(upTo(5));
        writeAll(x);
        x.open(0);
        x.put(0, 4, 9);
        x.crashAt(1 + 4);
        due("write", x.write(2), PageLoom.CRASHED);
        due("1 a leaf is torn", x.check(), 1);
        due("keys of it", x.agrees(), false);
        x.recover();
        dueSound(x);
    }

    private static void allIsRight() {
        due("an empty root", new PageLoom().check(), 0);
        PageLoom x = committedWith(upTo(30));
        due("many pages", x.check(), 0);
        writeAll(x);
        x.crash();
        due("on the disk", x.check(), 0);
        due("agrees", x.agrees(), true);
    }

    private static void pagesComeToTwice() {
        PageLoom x = committedWith(upTo(14));
        writeAll(x);
        x.open(1);
        // The frames are such that page 6, which is SPLIT, comes not to the disk.
        x.read(1, 2);
        x.put(1, 14, 14);
        for (int page : new int[] {0, 9, 10}) {
            x.write(page);
        }
        x.crash();
        dueCells(x, 0, 2, "5 406 809");
        dueCells(x, 6, 2, "3 604 807 1008");
        dueCells(x, 9, 2, "7 1008 1210");
        for (int page = 0; page < 11; page++) {
            due("none is free", x.page(page, 0) > 0, true);
        }
        due("2", x.check(), 2);
        x.recover();
        dueSound(x);
    }

    private static void keysAtTheirBounds() {
        PageLoom equal = committedWith(upTo(5));
        writeAll(equal);
        equal.open(0);
        putAll(equal, 0, 5, 6);
        equal.commit(0);
        equal.write(0);
        equal.write(3);
        equal.crash();
        dueCells(equal, 0, 2, "1 202 403");
        dueCells(equal, 2, 1, "2002 3003 4004");
        due("3 a key ahead is not less than 4", equal.check(), 3);
        PageLoom less = committedWith(upTo(7));
        writeAll(less);
        less.open(1);
        takeAll(less, 1, 0, 1);
        less.put(1, 1, 5);
        less.write(2);
        less.crash();
        dueCells(less, 0, 2, "1 202 403");
        dueCells(less, 2, 1, "1005 2002 3003");
        due("3 a key behind is less than 2", less.check(), 3);
        PageLoom right = committedWith(upTo(7));
        writeAll(right);
        right.crash();
        dueCells(right, 2, 1, "2002 3003");
        due("keys that are as great as the key ahead", right.check(), 0);
    }

    private static void pagesNotComeTo() {
        PageLoom leaf = committedWith(upTo(5));
        leaf.write(1);
        leaf.crash();
        dueCells(leaf, 0, 1, "");
        due("6 page 1 is a leaf that nobody has", leaf.check(), 6);
        PageLoom inner = committedWith(upTo(10));
        writeAll(inner);
        inner.open(0);
        inner.put(0, 10, 10);
        inner.write(5);
        inner.crash();
        dueCells(inner, 0, 2, "1 202 403 604");
        dueCells(inner, 5, 2, "1 202");
        due("6 page 5 is an inner page that nobody has", inner.check(), 6);
        PageLoom torn = committedWith(upTo(5));
        torn.crashAt(4);
        due("write", torn.write(1), PageLoom.CRASHED);
        due("halves of unlike writings", torn.page(1, 0), PageLoom.NONE);
        due("0 nobody has it", torn.check(), 0);
        PageLoom both = committedWith(upTo(5));
        both.write(2);
        both.crashAt(4);
        due("write", both.write(1), PageLoom.CRASHED);
        due("6 page 2 counts", both.check(), 6);
    }

    private static void freePagesComeTo() {
        PageLoom x = committedWith(upTo(5));
        x.write(0);
        x.write(1);
        x.crash();
        due("page 2 is free", x.page(2, 0), 0);
        due("2", x.check(), 2);
        x.recover();
        dueSound(x);
    }

    private static void theLeastOfSeveral() {
        PageLoom torn = committedWith(upTo(5));
        writeAll(torn);
        torn.open(0);
        torn.take(0, 4);
        torn.take(0, 3);
        torn.take(0, 2);
        due("the root is an empty leaf's parent no more", torn.page(0, 0), 1);
        torn.crashAt(torn.records() - torn.durable() + 4);
        due("write", torn.write(0), PageLoom.CRASHED);
        due("1, though both leaves are not come to", torn.check(), 1);
        PageLoom six = committedWith(upTo(5));
        six.write(1);
        six.write(2);
        six.crash();
        due("the root is a leaf on the disk", six.page(0, 0), 1);
        due("6", six.check(), 6);
        due("and lacks its keys", six.agrees(), false);
        PageLoom two = committedWith(upTo(5));
        two.write(0);
        two.write(2);
        two.crash();
        due("2 is free page 1 being come to", two.check(), 2);
    }

    private static void halvesAndMarks() {
        edge(14, "if both halves of the spare are of one writing, and those of its page on the disk are not",
                RecoveryEdgesTest::mending);
        edge(15, "3 writes of halves that mended a page", RecoveryEdgesTest::mendingCutOff);
        edge(14, "if both halves of the spare are of one writing", RecoveryEdgesTest::nothingToMend);
        edge(15, "0 without one", RecoveryEdgesTest::withoutRecover);
        edge(14, "or from the beginning, all records are read", RecoveryEdgesTest::anEmptyLog);
        edge(14, "From the latest MARK on, that one too, or from the beginning", RecoveryEdgesTest::marks);
        edge(10, "and all pages that differ from the disk, with the records that changed them first",
                RecoveryEdgesTest::marksMadeAnew);
        edge(10, "the log is made durable up to it", RecoveryEdgesTest::marksThatAreNotDurable);
        edge(14, "transactions are open that the MARK tells, or that have records", RecoveryEdgesTest::openByTheMark);
        edge(14, "and have neither COMMIT nor END behind that", RecoveryEdgesTest::endedBehindTheMark);
        edge(14, "or that have records, and have neither COMMIT nor END",
                RecoveryEdgesTest::openedAgainBehindTheMark);
        edge(10, "tells all open transactions that have records, with their latest ones",
                RecoveryEdgesTest::endedAheadOfTheMark);
    }

    private static void passes() {
        edge(15, "if its number is less than that of the record, it is changed by it",
                RecoveryEdgesTest::pagesThatAreAsTheyShould);
        edge(14, "with a first record that is not greater", RecoveryEdgesTest::firstRecordsThatAreGreater);
        edge(14, "and each page that it changes, by rising numbers", RecoveryEdgesTest::pagesByRisingNumbers);
        edge(14, "is no use of pages", RecoveryEdgesTest::nothingIsUsed);
        edge(14, "as long as the root is inner with one child alone, or another page is a leaf without entries, or "
                + "inner without children", RecoveryEdgesTest::smallActionsCutOff);
        edge(14, "if the root is so, what is told behind a GO is done",
                RecoveryEdgesTest::smallActionsOfWhatWasCommitted);
        edge(14, "the latest record that is to be looked at is undone first", RecoveryEdgesTest::theLatestFirst);
        edge(14, "one with none left has its END", RecoveryEdgesTest::nothingLeftToUndo);
        edge(14, "for an UNDO one goes on with the record of the transaction", RecoveryEdgesTest::undoneAheadOfTheCrash);
        edge(14, "never with a SPLIT", RecoveryEdgesTest::noSplitInRecovery);
        edge(14, "When all is done, no transaction is open.", RecoveryEdgesTest::allAreEnded);
        edge(15, "2 UNDOs made in the third one, each as soon as all that follows it is done, too",
                RecoveryEdgesTest::undosWithAllThatFollows);
        edge(15, "Returns what the latest recover() has done so far", RecoveryEdgesTest::passesCutOff);
        edge(14, "Returns 0; or CRASHED, and it can be done once more.", RecoveryEdgesTest::onceMore);
    }

    private static void walks() {
        edge(27, "Tells whether the tree has the value of plain() for each key that no transaction has locked",
                RecoveryEdgesTest::valuesOnTheDisk);
        edge(27, "false also where one cannot come to a leaf so", RecoveryEdgesTest::noLeafToComeTo);
        edge(28, "1 a page has halves of unlike writings", RecoveryEdgesTest::tornLeaves);
        edge(28, "0 if all is right", RecoveryEdgesTest::allIsRight);
        edge(28, "2 a page is come to twice, or a free one", RecoveryEdgesTest::pagesComeToTwice);
        edge(28, "2 a page is come to twice, or a free one", RecoveryEdgesTest::freePagesComeTo);
        edge(28, "6 a page that is not free is not come to (one whose halves are of unlike writings, and that is not "
                + "come to, does not count)", RecoveryEdgesTest::pagesNotComeTo);
        edge(28, "all keys beneath the children behind it are at least it, all beneath those ahead are less",
                RecoveryEdgesTest::keysAtTheirBounds);
        edge(28, "otherwise the least of", RecoveryEdgesTest::theLeastOfSeveral);
    }

    public static void main(String[] args) {
        halvesAndMarks();
        passes();
        walks();
        end();
    }
}
