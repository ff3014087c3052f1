/** For each promise of the document some runs of calls, with what is due by its words alone. */
public final class PromisesTest extends Checks {
    private static void aNewObject() {
        PageLoom x = new PageLoom();
        due("records", x.records(), 0);
        due("durable", x.durable(), 0);
        due("writes", x.writes(), 0);
        due("hand", x.hand(), 0);
        dueCells(x, 0, 1, "");
        for (int page = 0; page < 24; page++) {
            due("kind", x.page(page, 0), page == 0 ? 1 : 0);
            due("number", x.page(page, 1), 0);
            due("count", x.page(page, 2), 0);
            due("in a frame", x.page(page, 3), 0);
        }
        for (int key = 0; key < 32; key++) {
            due("holder", x.holder(key), -1);
            due("plain", x.plain(key), -1);
        }
        for (int i = 0; i < 4; i++) {
            due("waits", x.waitsFor(i), -1);
            due("pass", x.pass(i), 0);
            due("frame", x.frame(i, 0), -1);
            due("used", x.frame(i, 1), 0);
            due("first", x.frame(i, 2), 0);
        }
        dueSound(x);
        wrongState("recover", () -> x.recover());
    }

    private static void opening() {
        PageLoom x = new PageLoom();
        wrongArgument("open(-1)", () -> open(x, -1));
        wrongArgument("open(4)", () -> open(x, 4));
        for (int t = 0; t < 4; t++) {
            int which = t;
            x.open(t);
            wrongState("open again", () -> open(x, which));
        }
        x.commit(2);
        x.open(2);
        x.undo(2);
        x.open(2);
        PageLoom y = crashed();
        wrongArgument("open(4) behind a crash", () -> open(y, 4));
        wrongState("open behind a crash", () -> open(y, 1));
        y.recover();
        y.open(0);
    }

    private static void puttingRefused() {
        PageLoom x = new PageLoom();
        wrongState("put when not open", () -> x.put(0, 0, 0));
        wrongArgument("put with a wrong key when not open", () -> x.put(0, 32, 0));
        x.open(0);
        wrongArgument("transaction -1", () -> x.put(-1, 0, 0));
        wrongArgument("transaction 4", () -> x.put(4, 0, 0));
        wrongArgument("key -1", () -> x.put(0, -1, 0));
        wrongArgument("key 32", () -> x.put(0, 32, 0));
        wrongArgument("value -1", () -> x.put(0, 0, -1));
        wrongArgument("value 1000", () -> x.put(0, 0, 1000));
        due("nothing has changed", x.holder(0), -1);
        due("nothing was used", x.frame(0, 0), -1);
        due("put 31 999", x.put(0, 31, 999), 0);
        dueCells(x, 0, 1, "31999");
        PageLoom y = crashed();
        wrongArgument("wrong key behind a crash", () -> y.put(0, 32, 0));
        wrongState("put behind a crash", () -> y.put(0, 0, 0));
    }

    private static void puttingSplits() {
        PageLoom x = with(0, 0, 1, 2, 3);
        due("no split yet", x.records(), 4);
        x.put(0, 3, 7);
        due("a key that is there splits nothing", x.records(), 5);
        x.put(0, 4, 4);
        dueCells(x, 0, 2, "1 202");
        dueCells(x, 1, 1, "0 1001");
        dueCells(x, 2, 1, "2002 3007 4004");
        due("the SPLIT is ahead of the CHANGE", x.record(6, 0), 5);
        due("the CHANGE", x.record(7, 0), 0);
        due("the root has the SPLIT's number", x.page(0, 1), 6);
        due("page 1 too", x.page(1, 1), 6);
        due("page 2 has the CHANGE's", x.page(2, 1), 7);
        PageLoom y = with(0, upTo(11));
        // The root had 4 children: it is split first, then the leaf beneath.
        dueCells(y, 0, 2, "5 406");
        dueCells(y, 5, 2, "1 202");
        dueCells(y, 6, 2, "3 604 807");
        dueCells(y, 4, 1, "6006 7007");
        dueCells(y, 7, 1, "8008 9009 10010");
        dueSound(y);
    }

    private static void puttingWithoutPages() {
        PageLoom x = with(0, upTo(30));
        int free = 0;
        for (int page = 0; page < 24; page++) {
            free += x.page(page, 0) == 0 ? 1 : 0;
        }
        due("one page is free", free, 1);
        int records = x.records();
        due("put takes two", x.put(0, 30, 1), PageLoom.FULL);
        due("what was split stays", x.records(), records + 1);
        due("it was a SPLIT", x.record(records + 1, 0), 5);
        due("the key is locked", x.holder(30), 0);
        due("the key is not there", x.read(0, 30), -1);
        due("FULL again", x.put(0, 30, 1), -5);
        due("nothing more was split", x.records(), records + 1);
        due("what is there can be put", x.put(0, 29, 1), 0);
        dueSound(x);
    }

    private static void puttingIntoALongLog() {
        PageLoom x = with(0, 0);
        x.open(1);
        x.open(2);
        for (int i = 1; i < 198; i++) {
            due("put", x.put(0, 0, i), 0);
        }
        due("put with 198", x.put(1, 1, 1), 0);
        due("put with 199", x.put(1, 2, 1), 0);
        due("records", x.records(), 200);
        wrongState("put with 200", () -> x.put(0, 0, 1));
        wrongState("take with 200", () -> x.take(0, 0));
        wrongState("take of none with 200", () -> x.take(0, 9));
        wrongState("mark with 200", () -> x.mark());
        wrongArgument("put with 200 and a wrong value", () -> x.put(0, 0, 1000));
        due("read", x.read(0, 0), 197);
        due("read waits", x.read(0, 1), -2);
        due("the victim is undone all the same", x.read(1, 0), -3);
        due("records", x.records(), 203);
        due("back", x.back(0, 100), 98);
        due("commit", x.commit(0), 302);
        due("undo", x.undo(2), 0);
        due("records", x.records(), 303);
        dueSound(x);
    }

    private static void takingAway() {
        PageLoom x = committedWith(upTo(6));
        wrongState("take when not open", () -> x.take(0, 0));
        x.open(1);
        wrongArgument("transaction", () -> x.take(4, 0));
        wrongArgument("key 32", () -> x.take(1, 32));
        wrongArgument("key -1", () -> x.take(1, -1));
        due("take of none", x.take(1, 9), -1);
        due("it is locked", x.holder(9), 1);
        due("and in no record", x.place(1), 0);
        due("take 0", x.take(1, 0), 0);
        dueCells(x, 1, 1, "1001");
        int records = x.records();
        due("take 1", x.take(1, 1), 1);
        due("a CHANGE", x.record(records + 1, 0), 0);
        due("a GO", x.record(records + 2, 0), 6);
        due("a TAKE OVER", x.record(records + 3, 0), 7);
        due("no more", x.records(), records + 3);
        dueCells(x, 0, 1, "2002 3003 4004 5005");
        dueCells(x, 1, 0, "");
        dueCells(x, 2, 0, "");
        due("number of the page that went", x.page(1, 1), records + 2);
        due("number of the page taken over", x.page(2, 1), records + 3);
        for (int key = 2; key < 6; key++) {
            due("take", x.take(1, key), key);
        }
        dueCells(x, 0, 1, "");
        due("the root goes never", x.record(x.records(), 0), 0);
        dueSound(x);
    }

    /** A leaf goes, its parent that has no children then too, and the root takes over. */
    private static void takingPagesAway() {
        PageLoom x = committedWith(upTo(11));
        x.open(1);
        x.take(1, 0);
        x.take(1, 1);
        dueCells(x, 5, 2, "2");
        dueCells(x, 0, 2, "5 406");
        x.take(1, 2);
        int records = x.records();
        due("take 3", x.take(1, 3), 3);
        due("the leaf", x.record(records + 2, 0), 6);
        due("its parent", x.record(records + 3, 0), 6);
        due("the root", x.record(records + 4, 0), 7);
        due("no more", x.records(), records + 4);
        dueCells(x, 0, 2, "3 604 807");
        dueCells(x, 5, 0, "");
        dueCells(x, 6, 0, "");
        x.take(1, 4);
        x.take(1, 5);
        dueCells(x, 0, 2, "4 807");
        for (int key = 8; key < 11; key++) {
            x.take(1, key);
        }
        dueCells(x, 0, 1, "6006 7007");
        dueSound(x);
    }

    private static void reading() {
        PageLoom x = committedWith(3);
        wrongState("read when not open", () -> x.read(0, 3));
        x.open(1);
        wrongArgument("transaction -1", () -> x.read(-1, 3));
        wrongArgument("key 32", () -> x.read(1, 32));
        wrongArgument("key -1", () -> x.read(1, -1));
        due("read", x.read(1, 3), 3);
        due("read of none", x.read(1, 4), -1);
        due("locked", x.holder(3), 1);
        due("locked, too", x.holder(4), 1);
        x.put(1, 4, 44);
        due("its own", x.read(1, 4), 44);
        x.open(2);
        due("another one waits", x.read(2, 4), -2);
        due("and has locked nothing", x.holder(4), 1);
        int records = x.records();
        x.commit(1);
        due("read what was committed", x.read(2, 4), 44);
        due("reading is in no record", x.records(), records + 1);
        PageLoom y = crashed();
        wrongArgument("wrong key behind a crash", () -> y.read(0, 32));
        wrongState("read behind a crash", () -> y.read(0, 5));
    }

    private static void rings() {
        PageLoom x = new PageLoom();
        for (int t = 0; t < 4; t++) {
            x.open(t);
        }
        x.put(0, 0, 1);
        x.put(0, 10, 1);
        x.put(1, 1, 1);
        x.put(2, 2, 1);
        x.put(2, 12, 1);
        x.put(3, 3, 1);
        x.put(3, 13, 1);
        x.put(3, 14, 1);
        due("0 for 1", x.put(0, 1, 9), -2);
        due("1 for 2", x.put(1, 2, 9), -2);
        due("3 for 0, on no ring", x.put(3, 0, 9), -2);
        int records = x.records();
        // On the ring 2, 0, 1 the transaction 1 has the fewest records; 2 goes on behind it.
        due("2 for 0", x.put(2, 0, 9), -2);
        due("UNDO and END of 1", x.records() >= records + 2, true);
        due("nobody waits for 1", x.waitsFor(0), -1);
        due("1 does not wait", x.waitsFor(1), -1);
        due("2 waits for 0", x.waitsFor(2), 0);
        due("3 waits for 0", x.waitsFor(3), 0);
        due("1 has its key no more", x.holder(1), -1);
        wrongState("1 is not open", () -> x.read(1, 1));
        due("0 for 3 is a ring of both, and 0 has fewer", x.put(0, 3, 9), -3);
        due("nobody waits for 0", x.waitsFor(2), -1);
        due("3 neither", x.waitsFor(3), -1);
        due("keys are free", x.holder(0), -1);
        due("2 has the key", x.put(2, 0, 9), 0);
        due("3 waits for 2", x.take(3, 0), -2);
        // 2 and 3 have three records each: of several the highest one.
        due("the other one is undone, and the call goes on", x.put(2, 3, 9), 0);
        due("3 is not open", x.waitsFor(3), -1);
        wrongState("3 was the victim", () -> x.place(3));
        due("2 does not wait", x.waitsFor(2), -1);
        due("the key is its own", x.holder(3), 2);
        due("commit", x.commit(2), x.records());
        dueSound(x);
    }

    private static void placesAndWaiting() {
        PageLoom x = with(0, 7);
        wrongArgument("place(-1)", () -> x.place(-1));
        wrongArgument("place(4)", () -> x.place(4));
        wrongState("place when not open", () -> x.place(1));
        x.open(1);
        due("none", x.place(1), 0);
        due("one", x.place(0), 1);
        due("waits", x.read(1, 7), -2);
        due("waits", x.waitsFor(1), 0);
        wrongArgument("a call that throws", () -> x.put(1, 7, 1000));
        due("still waits", x.waitsFor(1), 0);
        due("place", x.place(1), 0);
        due("called again, whatever for", x.waitsFor(1), -1);
        x.read(1, 7);
        due("back", x.back(1, 0), 0);
        due("called again, whatever for", x.waitsFor(1), -1);
        x.read(1, 7);
        due("a call of another one", x.read(0, 8), -1);
        due("still waits", x.waitsFor(1), 0);
        x.commit(0);
        due("the other one has ended", x.waitsFor(1), -1);
        PageLoom y = crashed();
        wrongState("place behind a crash", () -> y.place(0));
    }

    private static void goingBack() {
        PageLoom x = committedWith(1, 2);
        x.open(1);
        x.put(1, 1, 10);
        int place = x.place(1);
        due("place", place, 4);
        x.put(1, 2, 20);
        x.put(1, 3, 30);
        x.take(1, 1);
        wrongArgument("back(-1)", () -> x.back(1, -1));
        wrongArgument("back behind the log", () -> x.back(1, x.records() + 1));
        wrongArgument("transaction", () -> x.back(4, 0));
        wrongState("not open", () -> x.back(2, 0));
        due("back to the latest record", x.back(1, x.records()), 0);
        due("three", x.back(1, place), 3);
        dueCells(x, 0, 1, "1010 2002");
        due("the place is an UNDO", x.place(1), 10);
        due("an UNDO", x.record(8, 0), 1);
        due("of the latest", x.record(8, 3), 7);
        due("of the first", x.record(10, 3), 5);
        due("locks stay", x.holder(3), 1);
        x.put(1, 3, 31);
        due("again, past what was undone", x.back(1, 0), 2);
        dueCells(x, 0, 1, "1001 2002");
        due("no END", x.record(x.records(), 0), 1);
        due("commit", x.commit(1), 14);
        due("plain", x.plain(1), 1);
        due("plain", x.plain(3), -1);
        PageLoom y = crashed();
        wrongArgument("behind a crash, place", () -> y.back(0, 99));
        wrongState("behind a crash", () -> y.back(0, 0));
    }

    private static void committing() {
        PageLoom x = with(2, 1, 2, 3);
        wrongArgument("commit(-1)", () -> x.commit(-1));
        wrongArgument("commit(4)", () -> x.commit(4));
        wrongState("commit when not open", () -> x.commit(0));
        due("nothing durable", x.durable(), 0);
        due("commit", x.commit(2), 4);
        due("a COMMIT", x.record(4, 0), 2);
        due("durable", x.durable(), 4);
        due("one write for each", x.writes(), 4);
        due("keys are free", x.holder(1), -1);
        wrongState("ended", () -> x.commit(2));
        x.open(2);
        due("without records", x.commit(2), 5);
        x.open(1);
        x.put(1, 1, 100);
        x.crashAt(2);
        due("a crash ahead of the COMMIT's write", x.commit(1), -4);
        due("durable", x.durable(), 6);
        due("plain", x.plain(1), 1);
        wrongState("behind a crash", () -> x.commit(1));
        x.recover();
        dueSound(x);
    }

    private static void undoing() {
        PageLoom x = committedWith(upTo(4));
        x.open(1);
        wrongArgument("undo(-1)", () -> x.undo(-1));
        wrongArgument("undo(4)", () -> x.undo(4));
        wrongState("undo when not open", () -> x.undo(0));
        x.put(1, 4, 4);
        x.put(1, 0, 77);
        x.take(1, 3);
        due("undo", x.undo(1), 3);
        due("an END", x.record(x.records(), 0), 3);
        due("nothing is made durable by it", x.durable(), 5);
        dueCells(x, 0, 2, "1 202");
        dueCells(x, 1, 1, "0 1001");
        dueCells(x, 2, 1, "2002 3003");
        wrongState("ended", () -> x.undo(1));
        x.open(1);
        int records = x.records();
        due("without records", x.undo(1), 0);
        due("an END all the same", x.records(), records + 1);
        dueSound(x);
        PageLoom y = crashed();
        wrongState("behind a crash", () -> y.undo(0));
    }

    /** A leaf may have more than 4 entries by undoing; a new key splits it as often as need be. */
    private static void undoingIntoAFullLeaf() {
        PageLoom x = committedWith(upTo(8));
        x.open(1);
        for (int key = 0; key < 5; key++) {
            x.take(1, key);
        }
        // Pages 1 and 2 are gone, and what they had comes back to one leaf.
        due("undo", x.undo(1), 5);
        int most = 0;
        for (int page = 0; page < 24; page++) {
            most = x.page(page, 0) == 1 ? Math.max(most, x.page(page, 2)) : most;
        }
        due("more than 4", most > 4, true);
        due("no SPLIT", x.record(x.records() - 1, 0), 1);
        dueSound(x);
        x.open(2);
        due("put", x.put(2, 31, 1), 0);
        due("put", x.put(2, 30, 1), 0);
        due("put", x.put(2, 29, 1), 0);
        dueSound(x);
    }

    private static void marking() {
        PageLoom x = with(0, 5);
        x.open(1);
        due("mark", x.mark(), 2);
        due("a MARK", x.record(2, 0), 4);
        due("durable", x.durable(), 2);
        due("the page is not written", x.frame(0, 2), 1);
        due("writes", x.writes(), 2);
        x.put(0, 6, 6);
        x.put(1, 7, 7);
        x.commit(1);
        x.crash();
        due("recover", x.recover(), 0);
        due("from the MARK on", x.pass(0), 4);
        due("from the first change on", x.pass(1), 3);
        due("told as open by the MARK or by records", x.pass(2), 2);
        due("read", x.plain(7), 7);
        dueSound(x);
        x.open(0);
        x.mark();
        x.crashAt(1);
        due("a crash ahead of it", x.mark(), -4);
        wrongState("behind a crash", () -> x.mark());
    }

    private static void writing() {
        PageLoom x = with(0, 5);
        wrongIndex("write(-1)", () -> x.write(-1));
        wrongIndex("write(24)", () -> x.write(24));
        due("not in a frame", x.write(1), 0);
        due("write", x.write(0), 1);
        due("one for the log, four for halves", x.writes(), 5);
        due("the log is durable ahead of it", x.durable(), 1);
        due("it does not differ", x.frame(0, 2), 0);
        due("again", x.write(0), 0);
        x.read(0, 5);
        x.put(0, 5, 6);
        due("it differs since the second record", x.frame(0, 2), 2);
        for (int write = 1; write <= 5; write++) {
            PageLoom y = with(0, 5);
            y.write(0);
            y.put(0, 5, 6);
            y.crashAt(write);
            due("a crash", y.write(0), -4);
            due("durable", y.durable(), write == 1 ? 1 : 2);
            due("writes", y.writes(), 5 + write - 1);
            due("the page is torn between its halves", y.page(0, 0), write == 5 ? -1 : 1);
            due("recover", y.recover(), 0);
            due("mended", y.pass(3), write == 5 ? 2 : 0);
            due("changed again", y.pass(1), write == 2 || write == 3 || write == 4 ? 1 : 0);
            due("undone", y.pass(2), write == 1 ? 1 : 2);
            dueSound(y);
        }
        PageLoom z = crashed();
        wrongIndex("write(24) behind a crash", () -> z.write(24));
        wrongState("write behind a crash", () -> z.write(0));
    }

    private static void crashesTold() {
        PageLoom x = with(0, 5, 6);
        wrongArgument("crashAt(-1)", () -> crashAt(x, -1));
        wrongArgument("crashAt(1000)", () -> crashAt(x, 1000));
        x.crashAt(1);
        x.crashAt(999);
        due("in place of the one before", x.commit(0), 3);
        x.open(0);
        x.crashAt(1);
        x.crashAt(0);
        due("none", x.commit(0), 4);
        x.open(0);
        x.crashAt(2);
        due("it comes ahead of the second one from now", x.commit(0), 5);
        x.open(0);
        due("it is told once", x.commit(0), -4);
        due("durable", x.durable(), 5);
        x.recover();
        x.open(0);
        due("and not again", x.commit(0), 6);
        x.crash();
        x.crashAt(1);
        due("it may be told behind a crash", x.recover(), 0);
        x.open(0);
        due("and comes then", x.commit(0), -4);
    }

    private static void crashing() {
        PageLoom x = with(0, 5);
        x.open(1);
        x.read(1, 5);
        x.put(1, 6, 6);
        x.crashAt(1);
        x.crash();
        due("records that are not durable are gone", x.records(), 0);
        due("no lock", x.holder(5), -1);
        due("nobody waits", x.waitsFor(1), -1);
        dueFrames(x, -1, -1, -1, -1);
        due("hand", x.hand(), 0);
        due("used", x.frame(0, 1), 0);
        x.crash();
        due("recover", x.recover(), 0);
        x.open(0);
        due("no transaction was open, and what was told stays", x.commit(0), -4);
    }

    private static void recovering() {
        PageLoom x = committedWith(1, 2);
        wrongState("no crash", () -> x.recover());
        x.open(1);
        x.open(2);
        x.put(1, 1, 11);
        x.put(2, 2, 22);
        x.put(1, 3, 33);
        x.mark();
        x.crash();
        due("recover", x.recover(), 0);
        due("read", x.pass(0), 1);
        due("changed", x.pass(1), 5);
        due("undone", x.pass(2), 3);
        // Of both together the latest first, and an END as soon as none is left.
        due("UNDO of 6", x.record(8, 3), 6);
        due("UNDO of 5", x.record(9, 3), 5);
        due("END", x.record(10, 0), 3);
        due("of 2", x.record(10, 1), 2);
        due("UNDO of 4", x.record(11, 3), 4);
        due("END", x.record(12, 0), 3);
        due("of 1", x.record(12, 1), 1);
        due("no more", x.records(), 12);
        due("nothing made durable", x.durable(), 7);
        wrongState("it is done", () -> x.recover());
        for (int t = 0; t < 4; t++) {
            x.open(t);
        }
        dueSound(x);
    }

    /** Records that undo are never undone: what was undone ahead of a crash is not undone once more. */
    private static void recoveringTwice() {
        PageLoom x = committedWith(1);
        x.open(1);
        x.put(1, 1, 2);
        x.put(1, 1, 3);
        x.put(1, 1, 4);
        x.back(1, 4);
        x.mark();
        x.crash();
        due("recover", x.recover(), 0);
        due("one was undone before", x.pass(2), 2);
        due("of 4", x.record(8, 3), 4);
        due("of 3", x.record(9, 3), 3);
        due("page", x.entry(0, 0), 1001);
        x.write(0);
        due("durable up to the page's change", x.durable(), 9);
        x.crash();
        x.recover();
        due("nothing is left but the END", x.pass(2), 0);
        due("END", x.record(10, 0), 3);
        due("all is on the disk", x.pass(1), 0);
        dueSound(x);
    }

    /** A crash in recover(), at each of its writes, until it is done. */
    private static void recoveringAtLast() {
        for (int write = 1; write < 30; write++) {
            PageLoom x = committedWith(upTo(16));
            x.open(1);
            for (int key = 0; key < 9; key++) {
                x.take(1, key);
            }
            x.mark();
            for (int key = 9; key < 16; key++) {
                x.take(1, key);
            }
            x.crash();
            int tries = 0;
            x.crashAt(write);
            while (x.recover() == -4) {
                due("behind a crash again", x.records(), x.durable());
                tries++;
                x.crashAt(write + tries * 7);
            }
            due("it came to an end", tries < 60, true);
            x.crashAt(0);
            dueSound(x);
            x.open(3);
            for (int key = 0; key < 16; key++) {
                due("read", x.read(3, key), key);
            }
        }
    }

    /** The TAKE OVER was not durable: recovery does it ahead of undoing. */
    private static void recoveringSmallActions() {
        PageLoom x = committedWith(upTo(5));
        x.open(1);
        x.take(1, 0);
        x.take(1, 1);
        due("CHANGE, CHANGE, GO, TAKE OVER", x.records(), 11);
        x.crashAt(3);
        due("a crash behind the second CHANGE", x.commit(1), -4);
        due("durable", x.durable(), 9);
        due("recover", x.recover(), 0);
        due("GO", x.record(10, 0), 6);
        due("TAKE OVER", x.record(11, 0), 7);
        due("UNDO", x.record(12, 0), 1);
        due("UNDO", x.record(13, 0), 1);
        due("END", x.record(14, 0), 3);
        due("changes in the second pass alone", x.pass(1), 4 + 3 + 1 + 2);
        dueCells(x, 0, 1, "0 1001 2002 3003 4004");
        PageLoom y = committedWith(upTo(5));
        y.open(1);
        y.take(1, 0);
        y.take(1, 1);
        y.crashAt(4);
        due("a crash behind the GO", y.commit(1), -4);
        y.recover();
        due("TAKE OVER", y.record(11, 0), 7);
        due("UNDO", y.record(12, 0), 1);
        dueSound(y);
    }

    private static void passes() {
        PageLoom x = new PageLoom();
        wrongArgument("pass(-1)", () -> x.pass(-1));
        wrongArgument("pass(4)", () -> x.pass(4));
        x.crash();
        due("none without recover()", x.pass(0), 0);
        x.recover();
        due("an empty log", x.pass(0), 0);
        PageLoom y = committedWith(1);
        y.crashAt(4);
        due("torn", y.write(0), -4);
        due("nothing so far", y.pass(3), 0);
        y.crashAt(2);
        due("a crash in mending", y.recover(), -4);
        due("one half", y.pass(3), 1);
        due("nothing was read", y.pass(0), 0);
        due("torn still", y.page(0, 0), -1);
        y.crashAt(1);
        due("a crash ahead of mending", y.recover(), -4);
        due("no half", y.pass(3), 0);
        due("recover", y.recover(), 0);
        due("two halves", y.pass(3), 2);
        due("read", y.pass(0), 2);
        due("nothing to change", y.pass(1), 0);
        y.crash();
        due("of the latest recover()", y.pass(3), 2);
        y.recover();
        due("nothing to mend", y.pass(3), 0);
    }

    private static void pagesSeen() {
        PageLoom x = with(0, upTo(5));
        wrongIndex("page(-1, 0)", () -> x.page(-1, 0));
        wrongIndex("page(24, 9)", () -> x.page(24, 9));
        wrongArgument("page(0, -1)", () -> x.page(0, -1));
        wrongArgument("page(0, 4)", () -> x.page(0, 4));
        due("inner", x.page(0, 0), 2);
        due("leaf", x.page(2, 0), 1);
        due("free", x.page(3, 0), 0);
        due("number", x.page(2, 1), 6);
        due("children", x.page(0, 2), 2);
        due("entries", x.page(2, 2), 3);
        due("in a frame", x.page(2, 3), 1);
        due("in none", x.page(3, 3), 0);
        x.crashAt(6 + 4);
        due("torn", x.write(2), -4);
        for (int what = 0; what < 3; what++) {
            due("halves of unlike writings", x.page(2, what), -1);
        }
        due("in no frame", x.page(2, 3), 0);
        wrongArgument("page(2, 4) of a torn page", () -> x.page(2, 4));
        due("no entry", x.entry(2, 0), -1);
        due("the others as on the disk", x.page(0, 0), 1);
    }

    private static void entries() {
        PageLoom x = with(0, 10, 11, 30, 31, 12);
        wrongIndex("entry(-1, 0)", () -> x.entry(-1, 0));
        wrongIndex("entry(24, 0)", () -> x.entry(24, 0));
        wrongIndex("entry(0, -1)", () -> x.entry(0, -1));
        dueCells(x, 0, 2, "1 3002");
        dueCells(x, 1, 1, "10010 11011 12012");
        dueCells(x, 2, 1, "30030 31031");
        due("behind all", x.entry(2, 2), -1);
        due("far behind all", x.entry(2, 2147483647), -1);
        due("of a free page", x.entry(23, 0), -1);
    }

    private static void framesAndTheHand() {
        PageLoom x = new PageLoom();
        wrongIndex("frame(-1, 0)", () -> x.frame(-1, 0));
        wrongIndex("frame(4, 3)", () -> x.frame(4, 3));
        wrongArgument("frame(0, -1)", () -> x.frame(0, -1));
        wrongArgument("frame(0, 3)", () -> x.frame(0, 3));
        x.open(0);
        for (int key = 0; key < 7; key++) {
            x.put(0, key, key);
        }
        // The SPLIT of page 2 gave page 3; all were used.
        dueFrames(x, 0, 1, 2, 3);
        due("round", x.hand(), 0);
        due("used", x.frame(1, 1), 1);
        due("changed first by", x.frame(0, 2), 1);
        due("changed first by", x.frame(3, 2), 8);
        x.put(0, 7, 7);
        due("nothing is taken", x.writes(), 0);
        x.put(0, 8, 8);
        // The SPLIT, record 11, changes 0 and 3, and passes all for 4: the root is written. To find the key again
        // the root comes where page 1 was, which is written.
        dueFrames(x, 4, 0, 2, 3);
        due("hand", x.hand(), 2);
        int[][] want = {{1, 11}, {1, 0}, {0, 5}, {0, 8}};
        for (int frame = 0; frame < 4; frame++) {
            due("used", x.frame(frame, 1), want[frame][0]);
            due("differs since", x.frame(frame, 2), want[frame][1]);
        }
        due("durable", x.durable(), 11);
        due("writes", x.writes(), 11 + 4 + 4);
        dueSound(x);
        PageLoom y = committedWith(upTo(7));
        y.crash();
        y.recover();
        due("used by the second pass", y.frame(0, 0), 0);
        for (int page = 0; page < 4; page++) {
            due("write", y.write(page), 1);
        }
        int writes = y.writes();
        y.open(0);
        due("a page that does not differ is not written", y.read(0, 0), 0);
        due("writes", y.writes(), writes);
    }

    private static void recordsTold() {
        PageLoom x = with(3, upTo(5));
        x.mark();
        x.undo(3);
        wrongIndex("record(0, 0)", () -> x.record(0, 0));
        wrongIndex("record(-1, 9)", () -> x.record(-1, 9));
        wrongIndex("record behind all", () -> x.record(x.records() + 1, 0));
        wrongArgument("record(1, -1)", () -> x.record(1, -1));
        wrongArgument("record(1, 5)", () -> x.record(1, 5));
        int[][] want = {
            {0, 3, 0, -1, 1}, {0, 3, 1, -1, 1}, {0, 3, 2, -1, 1}, {0, 3, 3, -1, 1},
            {5, -1, -1, -1, 3}, {0, 3, 4, -1, 1}, {4, -1, -1, -1, 0},
            {1, 3, 4, 6, 1}, {1, 3, 3, 4, 1}, {1, 3, 2, 3, 1}, {6, -1, -1, -1, 2}, {7, -1, -1, -1, 2},
            {1, 3, 1, 2, 1}, {1, 3, 0, 1, 1}, {3, 3, -1, -1, 0},
        };
        due("records", x.records(), want.length);
        for (int record = 1; record <= want.length; record++) {
            for (int what = 0; what < 5; what++) {
                due("record(" + record + ", " + what + ")", x.record(record, what), want[record - 1][what]);
            }
        }
        due("durable", x.durable(), 7);
        due("writes", x.writes(), 7);
        x.open(0);
        x.commit(0);
        due("COMMIT", x.record(16, 0), 2);
        due("its transaction", x.record(16, 1), 0);
        due("its pages", x.record(16, 4), 0);
    }

    private static void holdersAndWaiting() {
        PageLoom x = with(2, 31);
        wrongArgument("holder(-1)", () -> x.holder(-1));
        wrongArgument("holder(32)", () -> x.holder(32));
        wrongArgument("waitsFor(-1)", () -> x.waitsFor(-1));
        wrongArgument("waitsFor(4)", () -> x.waitsFor(4));
        due("holder", x.holder(31), 2);
        due("none", x.holder(30), -1);
        x.open(0);
        due("waits", x.take(0, 31), -2);
        due("for", x.waitsFor(0), 2);
        due("still held", x.holder(31), 2);
        due("nobody else waits", x.waitsFor(2), -1);
        x.undo(2);
        due("free", x.holder(31), -1);
        due("no more", x.waitsFor(0), -1);
        due("not open", x.waitsFor(1), -1);
    }

    private static void plainValues() {
        PageLoom x = new PageLoom();
        wrongArgument("plain(-1)", () -> x.plain(-1));
        wrongArgument("plain(32)", () -> x.plain(32));
        x.open(0);
        x.open(1);
        x.put(0, 1, 10);
        x.put(1, 2, 20);
        due("not committed", x.plain(1), -1);
        x.commit(1);
        due("committed", x.plain(2), 20);
        due("not committed, though durable", x.plain(1), -1);
        x.commit(0);
        due("committed", x.plain(1), 10);
        x.open(1);
        x.put(1, 1, 11);
        int place = x.place(1);
        x.put(1, 1, 12);
        x.take(1, 2);
        x.back(1, place);
        x.commit(1);
        due("the later one, but what was undone", x.plain(1), 11);
        due("undone", x.plain(2), 20);
        x.open(0);
        x.take(0, 1);
        x.commit(0);
        due("taken away", x.plain(1), -1);
        x.crash();
        due("behind a crash", x.plain(2), 20);
        x.recover();
        due("behind recover()", x.plain(2), 20);
        dueSound(x);
    }

    private static void agreeing() {
        PageLoom x = with(0, 1, 2);
        due("locked keys do not count", x.agrees(), true);
        x.commit(0);
        due("committed", x.agrees(), true);
        x.crash();
        due("the disk has nothing", x.agrees(), false);
        x.recover();
        due("recovered", x.agrees(), true);
        PageLoom y = committedWith(upTo(5));
        y.write(0);
        y.crash();
        due("children are free: no leaf to come to", y.agrees(), false);
        PageLoom z = committedWith(1);
        z.crashAt(4);
        z.write(0);
        due("torn: no leaf to come to", z.agrees(), false);
        z.recover();
        due("mended", z.agrees(), true);
    }

    private static void checking() {
        PageLoom x = committedWith(1);
        x.crashAt(4);
        x.write(0);
        due("1 the root is torn", x.check(), 1);
        x.recover();
        due("mended", x.check(), 0);
        PageLoom y = committedWith(upTo(5));
        y.write(0);
        y.crash();
        due("2 free pages are come to", y.check(), 2);
        y.recover();
        due("recovered", y.check(), 0);
        PageLoom z = committedWith(upTo(5));
        z.write(1);
        z.crash();
        due("6 a leaf is not come to", z.check(), 6);
        PageLoom t = committedWith(upTo(5));
        t.crashAt(4);
        t.write(1);
        due("one that is torn and not come to does not count", t.check(), 0);
        t.recover();
        due("recovered", t.check(), 0);
        PageLoom k = committedWith(upTo(6));
        for (int page = 0; page < 3; page++) {
            k.write(page);
        }
        k.open(0);
        k.put(0, 6, 6);
        k.commit(0);
        k.write(0);
        k.write(3);
        k.crash();
        due("3 page 2 has still what came to page 3", k.check(), 3);
        due("what is there can be come to", k.agrees(), true);
        k.recover();
        dueSound(k);
    }

    /** Pages that were written at unlike times, so that one leaf on the disk lies right beneath the root. */
    private static void checkingDepths() {
        PageLoom x = with(0, 12, 22, 18, 21, 0, 23, 14, 24, 26, 5, 13);
        x.take(0, 21);
        x.put(0, 7, 7);
        x.put(0, 9, 9);
        for (int key : new int[] {23, 26, 22}) {
            x.take(0, key);
        }
        x.put(0, 6, 6);
        x.take(0, 24);
        for (int key : new int[] {24, 27, 31}) {
            x.put(0, key, key);
        }
        due("all is right in the frames", x.check(), 0);
        x.write(6);
        x.crash();
        dueCells(x, 0, 2, "5 2106");
        dueCells(x, 5, 2, "1 702 1207 1404");
        dueCells(x, 1, 1, "0 5005 6006");
        dueCells(x, 2, 1, "7007 9009");
        dueCells(x, 7, 1, "12012 13013");
        dueCells(x, 4, 1, "14014 18018");
        dueCells(x, 6, 1, "24024 27027 31031");
        due("4 page 6 is a child of the root, the other leaves are children of page 5", x.check(), 4);
        x.recover();
        dueSound(x);
    }

    /** A recover() that does its second pass again, and is cut off when a leaf is bare and has not gone yet. */
    private static void checkingBarePages() {
        PageLoom x = with(0, 2, 3, 7, 1, 11, 6, 12, 15, 8);
        x.take(0, 1);
        x.put(0, 3, 3);
        x.take(0, 2);
        x.put(0, 24, 24);
        x.put(0, 10, 10);
        x.crash();
        x.crashAt(6);
        due("recover() cut off", x.recover(), PageLoom.CRASHED);
        dueCells(x, 0, 2, "1 302 703 1204");
        dueCells(x, 1, 1, "");
        dueCells(x, 2, 1, "3003 6006");
        dueCells(x, 3, 1, "7007 8008 11011");
        dueCells(x, 4, 1, "12012 15015 24024");
        due("5 page 1 has no entries", x.check(), 5);
        x.recover();
        dueSound(x);
    }

    /** Pages that came to the disk at unlike times, so that an inner page's children are all gone on the disk. */
    private static void checkingPagesWithoutChildren() {
        PageLoom x = with(0, 4, 20, 5, 29, 12, 0, 31, 8, 21, 14, 13, 22);
        x.crash();
        x.recover();
        x.crash();
        x.recover();
        dueSound(x);
        x.crash();
        dueCells(x, 0, 2, "5 1206");
        dueCells(x, 5, 2, "1");
        dueCells(x, 1, 1, "4004");
        dueCells(x, 6, 2, "");
        due("5 page 6 is inner and has no children", x.check(), 5);
        x.recover();
        dueSound(x);
    }

    private static void constants() {
        due("NONE", PageLoom.NONE, -1);
        due("WAITS", PageLoom.WAITS, -2);
        due("VICTIM", PageLoom.VICTIM, -3);
        due("CRASHED", PageLoom.CRASHED, -4);
        due("FULL", PageLoom.FULL, -5);
    }

    private static void firstHalf() {
        promise(1, PromisesTest::aNewObject);
        promise(2, PromisesTest::opening);
        promise(3, PromisesTest::puttingRefused);
        promise(3, PromisesTest::puttingSplits);
        promise(3, PromisesTest::puttingWithoutPages);
        promise(3, PromisesTest::puttingIntoALongLog);
        promise(3, PromisesTest::rings);
        promise(4, PromisesTest::takingAway);
        promise(4, PromisesTest::takingPagesAway);
        promise(5, PromisesTest::reading);
        promise(6, PromisesTest::placesAndWaiting);
        promise(7, PromisesTest::goingBack);
        promise(8, PromisesTest::committing);
        promise(9, PromisesTest::undoing);
        promise(9, PromisesTest::undoingIntoAFullLeaf);
        promise(10, PromisesTest::marking);
        promise(11, PromisesTest::writing);
        promise(12, PromisesTest::crashesTold);
        promise(13, PromisesTest::crashing);
    }

    private static void secondHalf() {
        promise(14, PromisesTest::recovering);
        promise(14, PromisesTest::recoveringTwice);
        promise(14, PromisesTest::recoveringAtLast);
        promise(14, PromisesTest::recoveringSmallActions);
        promise(15, PromisesTest::passes);
        promise(16, PromisesTest::pagesSeen);
        promise(17, PromisesTest::entries);
        promise(18, PromisesTest::framesAndTheHand);
        promise(20, PromisesTest::recordsTold);
        promise(24, PromisesTest::holdersAndWaiting);
        promise(26, PromisesTest::plainValues);
        promise(27, PromisesTest::agreeing);
        promise(28, PromisesTest::checking);
        edge(28, "4 leaves lie unlike deep", PromisesTest::checkingDepths);
        edge(28, "5 a leaf other than the root has no entries", PromisesTest::checkingBarePages);
        edge(28, "or an inner page no children", PromisesTest::checkingPagesWithoutChildren);
        promise(1, PromisesTest::constants);
    }

    public static void main(String[] args) {
        firstHalf();
        secondHalf();
        end();
    }
}
