/** The edges of the cache, its clock, the writes and the crashes ahead of them. */
public final class CacheEdgesTest extends Checks {
    /** All pages are on the disk, the cache is empty, and 1 is open. */
    private static PageLoom coldWith(int many) {
        PageLoom x = committedWith(upTo(many));
        writeAll(x);
        x.mark();
        x.crash();
        due("recover", x.recover(), 0);
        x.open(1);
        return x;
    }

    /** Four leaves beneath the root. */
    private static PageLoom cold() {
        PageLoom x = coldWith(10);
        dueCells(x, 0, 2, "1 202 403 604");
        return x;
    }

    /** Frames 4, 0, 2 and 3, of which the latter two were not used since and differ; the hand is at the third one. */
    private static PageLoom warm() {
        PageLoom x = with(0, upTo(9));
        dueFrames(x, 4, 0, 2, 3);
        dueUsed(x, 1, 1, 0, 0);
        due("hand", x.hand(), 2);
        return x;
    }

    private static void emptyFrames() {
        PageLoom x = new PageLoom();
        due("hand", x.hand(), 0);
        for (int frame = 0; frame < 4; frame++) {
            due("no page", x.frame(frame, 0), PageLoom.NONE);
            due("not used", x.frame(frame, 1), 0);
            due("no first record", x.frame(frame, 2), 0);
        }
        x.open(0);
        due("opening is no use", x.frame(0, 0), PageLoom.NONE);
        x.read(0, 7);
        dueFrames(x, 0, -1, -1, -1);
        dueUsed(x, 1, 0, 0, 0);
        dueFirst(x, 0, 0, 0, 0);
        due("hand", x.hand(), 1);
    }

    private static void theHandGoesRound() {
        PageLoom x = cold();
        due("hand", x.hand(), 0);
        x.read(1, 0);
        dueFrames(x, 0, 1, -1, -1);
        due("hand", x.hand(), 2);
        x.read(1, 2);
        due("hand", x.hand(), 3);
        x.read(1, 4);
        dueFrames(x, 0, 1, 2, 3);
        dueUsed(x, 1, 1, 1, 1);
        due("the hand is behind the last one, at the first one", x.hand(), 0);
    }

    private static void allWereUsed() {
        PageLoom x = cold();
        x.read(1, 0);
        x.read(1, 2);
        x.read(1, 4);
        due("6", x.read(1, 6), 6);
        // All four are passed, and the first one is come to once more.
        dueFrames(x, 4, 1, 2, 3);
        dueUsed(x, 1, 0, 0, 0);
        due("hand", x.hand(), 1);
    }

    private static void theFirstThatWasNotUsed() {
        PageLoom x = cold();
        for (int key = 0; key < 8; key += 2) {
            x.read(1, key);
        }
        x.read(1, 0);
        dueFrames(x, 4, 0, 1, 3);
        dueUsed(x, 1, 1, 1, 0);
        due("hand", x.hand(), 3);
        x.read(1, 2);
        dueFrames(x, 4, 0, 1, 2);
        dueUsed(x, 1, 1, 1, 1);
        due("hand", x.hand(), 0);
        x.read(1, 4);
        dueFrames(x, 3, 0, 1, 2);
        dueUsed(x, 1, 0, 0, 0);
        due("hand", x.hand(), 1);
        x.read(1, 6);
        // The root, in the frame 1, is passed; the frame 0 is not.
        dueFrames(x, 3, 0, 4, 2);
        dueUsed(x, 1, 0, 1, 0);
        due("hand", x.hand(), 3);
    }

    private static void roundFromTheLastFrame() {
        PageLoom x = cold();
        for (int key : new int[] {0, 2, 4, 6, 0, 2, 4, 6, 2}) {
            due("read", x.read(1, key), key);
        }
        dueFrames(x, 3, 0, 4, 2);
        dueUsed(x, 1, 1, 1, 1);
        due("pages that are in frames do not move the hand", x.hand(), 3);
        x.read(1, 0);
        dueFrames(x, 3, 0, 4, 1);
        dueUsed(x, 0, 0, 0, 1);
        due("hand", x.hand(), 0);
    }

    private static void pagesThatDoNotDiffer() {
        PageLoom x = cold();
        int writes = x.writes();
        for (int round = 0; round < 5; round++) {
            for (int key = 0; key < 10; key++) {
                due("read", x.read(1, key), key);
            }
        }
        due("writes", x.writes(), writes);
        dueFirst(x, 0, 0, 0, 0);
    }

    private static void pagesThatDiffer() {
        PageLoom x = warm();
        due("the root was written with all records up to its own, then page 1", x.writes(), 11 + 4 + 4);
        due("durable", x.durable(), 11);
        due("the CHANGE is not", x.records(), 12);
        dueFirst(x, 11, 0, 5, 8);
        x.read(0, 0);
        // Page 2 was changed last by 8, which is durable.
        dueFrames(x, 4, 0, 1, 3);
        due("writes", x.writes(), 19 + 4);
        due("durable", x.durable(), 11);
        due("page 2 is on the disk", x.page(2, 1), 8);
        dueCells(x, 2, 1, "2002 3003");
        dueSound(x);
    }

    private static void theFirstRecordSince() {
        PageLoom x = with(0, 5);
        dueFirst(x, 1, 0, 0, 0);
        x.put(0, 5, 6);
        x.put(0, 6, 6);
        dueFirst(x, 1, 0, 0, 0);
        due("but it has the number of the last one", x.page(0, 1), 3);
        x.write(0);
        dueFirst(x, 0, 0, 0, 0);
        x.read(0, 5);
        dueFirst(x, 0, 0, 0, 0);
        x.take(0, 5);
        x.take(0, 6);
        dueFirst(x, 4, 0, 0, 0);
        x.back(0, 0);
        dueFirst(x, 4, 0, 0, 0);
    }

    private static void writingIsNoUse() {
        PageLoom x = warm();
        due("write 2", x.write(2), 1);
        due("write 3", x.write(3), 1);
        due("write 4", x.write(4), 1);
        dueUsed(x, 1, 1, 0, 0);
        due("hand", x.hand(), 2);
        dueFirst(x, 0, 0, 0, 0);
        dueFrames(x, 4, 0, 2, 3);
        for (int page = 0; page < 24; page++) {
            due("nothing differs", x.write(page), 0);
        }
        due("a page in no frame is not read", x.page(1, 3), 0);
    }

    private static void fourWritesAndTheLog() {
        PageLoom x = with(0, upTo(5));
        due("no write so far", x.writes(), 0);
        due("page 1 was changed by 5", x.write(1), 1);
        due("durable", x.durable(), 5);
        due("writes", x.writes(), 5 + 4);
        due("page 2 was changed by 6", x.write(2), 1);
        due("durable", x.durable(), 6);
        due("writes", x.writes(), 9 + 1 + 4);
        due("page 0 was changed by 5", x.write(0), 1);
        due("durable", x.durable(), 6);
        due("writes", x.writes(), 14 + 4);
        due("the COMMIT alone is not durable", x.commit(0), 7);
        due("writes", x.writes(), 19);
        due("not again", x.write(0), 0);
        due("writes", x.writes(), 19);
    }

    /** Of the four writes of a page the last one makes it new; ahead of it, its halves are of unlike writings. */
    private static void crashesAheadOfEachHalf() {
        for (int write = 1; write <= 4; write++) {
            PageLoom x = with(0, 5);
            x.commit(0);
            x.write(0);
            x.open(0);
            x.put(0, 5, 6);
            x.commit(0);
            int writes = x.writes();
            x.crashAt(write);
            due("write", x.write(0), PageLoom.CRASHED);
            due("writes", x.writes(), writes + write - 1);
            due("number", x.page(0, 1), write == 4 ? PageLoom.NONE : 1);
            due("entry", x.entry(0, 0), write == 4 ? PageLoom.NONE : 5005);
            due("check", x.check(), write == 4 ? 1 : 0);
            due("agrees", x.agrees(), false);
            due("recover", x.recover(), 0);
            due("mended", x.pass(3), write == 4 ? 2 : 0);
            due("changed", x.pass(1), write == 4 ? 0 : 1);
            due("writes", x.writes(), writes + write - 1 + x.pass(3));
            due("number", x.page(0, 1), 3);
            due("differs", x.frame(0, 2), write == 4 ? 0 : 3);
            dueSound(x);
        }
    }

    private static void crashesAheadOfEachRecord() {
        for (int write = 1; write <= 8; write++) {
            PageLoom x = with(0, upTo(5));
            x.crashAt(write);
            due("commit", x.commit(0), write <= 7 ? PageLoom.CRASHED : 7);
            due("durable", x.durable(), Math.min(write - 1, 7));
            due("writes", x.writes(), Math.min(write - 1, 7));
            due("records", x.records(), Math.min(write - 1, 7));
            due("plain", x.plain(0), write <= 7 ? PageLoom.NONE : 0);
            if (write <= 7) {
                due("recover", x.recover(), 0);
            }
            dueSound(x);
        }
    }

    private static void crashesThatNobodyTold() {
        PageLoom x = warm();
        x.open(2);
        due("waits", x.read(2, 3), PageLoom.WAITS);
        x.crash();
        due("records", x.records(), 11);
        due("durable", x.durable(), 11);
        due("writes are not lost", x.writes(), 19);
        due("hand", x.hand(), 0);
        dueFrames(x, -1, -1, -1, -1);
        dueUsed(x, 0, 0, 0, 0);
        dueFirst(x, 0, 0, 0, 0);
        for (int key = 0; key < 32; key++) {
            due("holder", x.holder(key), PageLoom.NONE);
        }
        due("waits", x.waitsFor(2), PageLoom.NONE);
        due("the disk has the root", x.page(0, 1), 11);
        due("and page 1", x.page(1, 1), 5);
        due("but not page 2", x.page(2, 0), 0);
        String all = allOf(x);
        x.crash();
        dueText("what a second crash() changes", allOf(x), all);
        due("recover", x.recover(), 0);
        due("the next record", x.records() > 11 && x.record(12, 0) == 1, true);
    }

    private static void pagesInFramesAndOnTheDisk() {
        PageLoom x = with(0, 5);
        due("in a frame", x.page(0, 3), 1);
        x.write(0);
        x.put(0, 5, 6);
        x.put(0, 7, 7);
        due("number", x.page(0, 1), 3);
        due("count", x.page(0, 2), 2);
        due("entry", x.entry(0, 0), 5006);
        x.crash();
        due("in none", x.page(0, 3), 0);
        due("number", x.page(0, 1), 1);
        due("count", x.page(0, 2), 1);
        due("entry", x.entry(0, 0), 5005);
        due("no second one", x.entry(0, 1), PageLoom.NONE);
    }

    private static void unlikeHalves() {
        PageLoom x = with(0, 5);
        x.crashAt(1 + 4);
        due("write", x.write(0), PageLoom.CRASHED);
        for (int what = 0; what < 3; what++) {
            due("page", x.page(0, what), PageLoom.NONE);
        }
        due("in a frame", x.page(0, 3), 0);
        due("entry", x.entry(0, 0), PageLoom.NONE);
        due("far behind", x.entry(0, 99), PageLoom.NONE);
        wrongIndex("entry(0, -1)", () -> x.entry(0, -1));
        due("recover", x.recover(), 0);
        due("in a frame that was read from mended halves", x.page(0, 3), 1);
        due("page", x.page(0, 0), 1);
    }

    private static void countsAtFirstAndLater() {
        PageLoom x = new PageLoom();
        due("records", x.records(), 0);
        due("durable", x.durable(), 0);
        due("writes", x.writes(), 0);
        x.open(0);
        x.put(0, 5, 5);
        due("records", x.records(), 1);
        due("durable", x.durable(), 0);
        due("writes", x.writes(), 0);
        x.crash();
        due("records", x.records(), 0);
        due("recover", x.recover(), 0);
        due("records", x.records(), 0);
        due("durable", x.durable(), 0);
        x.open(0);
        due("commit", x.commit(0), 1);
        due("records", x.records(), 1);
        due("durable", x.durable(), 1);
        due("writes", x.writes(), 1);
    }

    // ---- what GO and TAKE OVER use

    /** The root, passed as one that was used when page 3 took a frame, is used again behind the GO of page 3. */
    private static void theRootIsLookedInto() {
        PageLoom x = coldWith(12);
        takeAll(x, 1, 4, 2, 8, 5);
        dueKinds(x, 23, 0, 6);
        dueFrames(x, 3, 0, 6, 7);
        dueUsed(x, 1, 1, 1, 0);
        dueFirst(x, 23, 0, 24, 22);
        due("hand", x.hand(), 1);
        due("durable", x.durable(), 21);
    }

    /** For page 6 the root loses its frame, and comes back for the TAKE OVER. */
    private static void theChildIsLookedInto() {
        PageLoom x = coldWith(13);
        due("durable", x.durable(), 21);
        int writes = x.writes();
        takeAll(x, 1, 2, 0, 1, 3);
        dueKinds(x, 24, 0, 6, 0, 6, 6, 7);
        dueFrames(x, 6, 0, 2, 1);
        dueUsed(x, 1, 1, 0, 0);
        dueFirst(x, 29, 29, 22, 23);
        due("hand", x.hand(), 2);
        due("the root was written ahead of the TAKE OVER", x.durable(), 28);
        due("and page 5", x.writes() - writes, 7 + 4 + 4);
    }

    private static void crashesInLookingIntoTheRoot() {
        PageLoom x = coldWith(15);
        takeAll(x, 1, 0, 6, 12, 10, 14);
        due("durable", x.durable(), 27);
        x.crashAt(3);
        // The GO is 32; the root takes the frame of page 10, which was changed last by 30.
        due("take", x.take(1, 1), PageLoom.CRASHED);
        due("durable", x.durable(), 29);
        due("recover", x.recover(), 0);
        dueSound(x);
    }

    // ---- crashes in calls that use pages

    private static void crashedCall(String what, CallWith call) {
        PageLoom x = warm();
        x.crashAt(1);
        due(what, call.now(x, 0), PageLoom.CRASHED);
        due("writes", x.writes(), 19);
        dueFrames(x, -1, -1, -1, -1);
        due("hand", x.hand(), 0);
        due("records", x.records(), 11);
        wrongState("0 is not open", () -> x.place(0));
        due("recover", x.recover(), 0);
        dueSound(x);
    }

    private static void putCrashes() {
        crashedCall("put", (x, t) -> x.put(t, 0, 1));
        crashedCall("put that needs a SPLIT of the root", (x, t) -> {
            x.put(t, 30, 1);
            return x.put(t, 31, 1);
        });
    }

    private static void takeCrashes() {
        crashedCall("take", (x, t) -> x.take(t, 1));
    }

    private static void readCrashes() {
        crashedCall("read", (x, t) -> x.read(t, 1));
        crashedCall("read that passes a page that was used", (x, t) -> {
            x.read(t, 3);
            return x.read(t, 1);
        });
    }

    private static void backCrashes() {
        crashedCall("back", (x, t) -> x.back(t, 0));
    }

    private static void undoCrashes() {
        crashedCall("undo", (x, t) -> x.undo(t));
    }

    private static void commitAndMarkCrash() {
        crashedCall("commit", (x, t) -> x.commit(t));
        crashedCall("mark", (x, t) -> x.mark());
        crashedCall("write", (x, t) -> x.write(4));
    }

    /** The one that called is told, though the write was for the undoing of another one. */
    private static void crashesInUndoingAVictim() {
        PageLoom x = warm();
        x.open(1);
        x.put(1, 20, 1);
        x.read(1, 21);
        due("waits", x.read(1, 0), PageLoom.WAITS);
        // Page 4 loses its frame; page 1, in the frame that is taken next, differs.
        x.put(0, 0, 9);
        x.read(0, 2);
        x.read(0, 4);
        dueFrames(x, 3, 0, 1, 2);
        dueUsed(x, 1, 0, 0, 0);
        due("hand", x.hand(), 1);
        int writes = x.writes();
        x.crashAt(1);
        // 1 has one record: it is the victim, and page 4 is looked into for it.
        due("read", x.read(0, 21), PageLoom.CRASHED);
        due("writes", x.writes(), writes);
        wrongState("0 is not open", () -> x.place(0));
        due("recover", x.recover(), 0);
        dueSound(x);
    }

    // ---- what crashAt() tells

    private static void aheadOfTheFirst() {
        PageLoom x = with(0, 5);
        x.crashAt(1);
        due("a call without writes", x.read(0, 5), 5);
        due("commit", x.commit(0), PageLoom.CRASHED);
        due("writes", x.writes(), 0);
    }

    private static void none() {
        PageLoom x = with(0, 5);
        x.crashAt(1);
        x.crashAt(0);
        due("commit", x.commit(0), 2);
        x.crashAt(0);
        x.open(0);
        due("commit", x.commit(0), 3);
    }

    private static void aheadOfTheLastOneThereIs() {
        PageLoom x = new PageLoom();
        x.open(0);
        x.crashAt(999);
        for (int i = 0; i < 199; i++) {
            x.put(0, 7, i);
            due("write", x.write(0), 1);
        }
        due("writes", x.writes(), 995);
        for (int writes = 996; writes <= 998; writes++) {
            due("commit", x.commit(0), writes - 796);
            due("writes", x.writes(), writes);
            x.open(0);
        }
        due("the 999th one", x.commit(0), PageLoom.CRASHED);
        due("writes", x.writes(), 998);
        due("recover", x.recover(), 0);
        dueSound(x);
    }

    private static void fromNowOn() {
        PageLoom x = with(0, 5);
        due("two writes", x.commit(0), 2);
        x.crashAt(3);
        x.open(0);
        due("one of three", x.commit(0), 3);
        x.open(0);
        due("two of three", x.commit(0), 4);
        x.open(0);
        due("the third one", x.commit(0), PageLoom.CRASHED);
        due("writes", x.writes(), 4);
    }

    private static void inPlaceOfWhatWasTold() {
        PageLoom x = with(0, 5);
        x.crashAt(1);
        x.crashAt(3);
        due("commit", x.commit(0), 2);
        x.open(0);
        x.crashAt(2);
        due("counted anew", x.commit(0), 3);
        x.open(0);
        due("crashed", x.commit(0), PageLoom.CRASHED);
    }

    private static void toldOnce() {
        PageLoom x = with(0, 5);
        x.crashAt(2);
        due("commit", x.commit(0), PageLoom.CRASHED);
        due("recover", x.recover(), 0);
        for (int i = 0; i < 5; i++) {
            x.open(0);
            due("not told any more", x.commit(0) > 0, true);
        }
    }

    private static void whatWasToldStays() {
        PageLoom x = with(0, 5);
        x.crashAt(4);
        due("two of four", x.commit(0), 2);
        x.crash();
        x.crash();
        due("recover, without writes", x.recover(), 0);
        x.open(0);
        due("three of four", x.commit(0), 3);
        x.open(0);
        due("the fourth one", x.commit(0), PageLoom.CRASHED);
        x.crashAt(1);
        x.crash();
        x.recover();
        x.open(0);
        due("crash() behind a crash does nothing", x.commit(0), PageLoom.CRASHED);
    }

    private static void clockAndWrites() {
        edge(18, "Returns what a frame has: the page, or NONE (0); whether it was used (1)", CacheEdgesTest::emptyFrames);
        edge(19, "the hand goes to the one behind it", CacheEdgesTest::theHandGoesRound);
        edge(19, "from where the hand stands, 0 at first, round and round", CacheEdgesTest::allWereUsed);
        edge(18, "the first one that is empty or was not used, those passed by being not used any more",
                CacheEdgesTest::theFirstThatWasNotUsed);
        edge(19, "round and round, the first one that is empty or was not used",
                CacheEdgesTest::roundFromTheLastFrame);
        edge(23, "If the page in it differs from the disk, it is written first.",
                CacheEdgesTest::pagesThatDoNotDiffer);
        edge(22, "first the log is made durable up to the record that changed it last",
                CacheEdgesTest::pagesThatDiffer);
        edge(18, "the record that changed it first since it differs, 0 if it does not (2)",
                CacheEdgesTest::theFirstRecordSince);
        edge(11, "Writes a page, if it is in a frame and differs; that is no use of it.",
                CacheEdgesTest::writingIsNoUse);
        edge(11, "one write for each record up to that which is not durable yet",
                CacheEdgesTest::fourWritesAndTheLog);
        edge(11, "the first one, then the second one, then its halves to the page on the disk, likewise",
                CacheEdgesTest::crashesAheadOfEachHalf);
        edge(8, "To make the log durable up to a record is one write for each record",
                CacheEdgesTest::crashesAheadOfEachRecord);
        edge(13, "the cache is empty, its hand at 0, all records that are not durable are gone",
                CacheEdgesTest::crashesThatNobodyTold);
        edge(21, "Returns the number of the latest record; 0 if there is none.", CacheEdgesTest::countsAtFirstAndLater);
        edge(22, "Returns up to which record the log is durable; 0 for none.", CacheEdgesTest::countsAtFirstAndLater);
        edge(23, "Returns how many writes were done.", CacheEdgesTest::countsAtFirstAndLater);
        edge(16, "in its frame, or, if it is in none, on the disk", CacheEdgesTest::pagesInFramesAndOnTheDisk);
        edge(17, "NONE if there are not so many, or page(page, 0) is NONE", CacheEdgesTest::unlikeHalves);
    }

    private static void crashes() {
        edge(18, "Behind each GO the root is looked into", CacheEdgesTest::theRootIsLookedInto);
        edge(18, "if it can TAKE OVER, the child is looked into, it is done", CacheEdgesTest::theChildIsLookedInto);
        edge(4, "Behind each GO the root is looked into", CacheEdgesTest::crashesInLookingIntoTheRoot);
        edge(3, "Returns 0, or WAITS, VICTIM, CRASHED, FULL.", CacheEdgesTest::putCrashes);
        edge(4, "Returns the value, NONE if it is not there, or WAITS, VICTIM, CRASHED.", CacheEdgesTest::takeCrashes);
        edge(5, "Returns the value, NONE if it is not there, or WAITS, VICTIM, CRASHED.", CacheEdgesTest::readCrashes);
        edge(7, "Returns how many UNDOs were made; or CRASHED.", CacheEdgesTest::backCrashes);
        edge(9, "Returns how many UNDOs were made; or CRASHED.", CacheEdgesTest::undoCrashes);
        edge(8, "Returns the number of the COMMIT; or CRASHED.", CacheEdgesTest::commitAndMarkCrash);
        edge(5, "and what was called tells CRASHED", CacheEdgesTest::crashesInUndoingAVictim);
        edge(12, "1 to 999, ahead of which write from now on; 0 for none", CacheEdgesTest::aheadOfTheFirst);
        edge(12, "0 for none", CacheEdgesTest::none);
        edge(12, "1 to 999", CacheEdgesTest::aheadOfTheLastOneThereIs);
        edge(12, "it comes ahead of the so many-th write from then on", CacheEdgesTest::fromNowOn);
        edge(12, "Tells a crash, in place of what was told before.", CacheEdgesTest::inPlaceOfWhatWasTold);
        edge(12, "A crash can be told", CacheEdgesTest::toldOnce);
        edge(13, "Crashes now, if there was no crash; what was told by crashAt() stays.",
                CacheEdgesTest::whatWasToldStays);
    }

    public static void main(String[] args) {
        clockAndWrites();
        crashes();
        end();
    }
}
