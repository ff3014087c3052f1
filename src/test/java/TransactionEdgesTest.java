/** The edges of transactions: locks, waiting, rings and victims, places, ends, and what was committed. */
public final class TransactionEdgesTest extends Checks {
    private static final int CHANGE = 0, UNDO = 1, COMMIT = 2, END = 3, MARK = 4, SPLIT = 5;

    /** Gives a transaction so many records, all of one key; without any, the key is locked by reading. */
    private static void holds(PageLoom x, int transaction, int key, int records) {
        due("nobody holds it", x.holder(key), PageLoom.NONE);
        x.read(transaction, key);
        for (int i = 0; i < records; i++) {
            due("put", x.put(transaction, key, i), 0);
        }
    }

    private static PageLoom allOpen() {
        PageLoom x = new PageLoom();
        for (int t = 0; t < 4; t++) {
            x.open(t);
        }
        return x;
    }

    // ---- open

    private static void openingIsNoMore() {
        PageLoom x = allOpen();
        due("no record", x.records(), 0);
        due("no use", x.page(0, 3), 0);
        for (int t = 0; t < 4; t++) {
            due("no record of its own", x.place(t), 0);
        }
    }

    private static void openedAgain() {
        PageLoom x = with(1, 1, 2);
        x.commit(1);
        x.open(1);
        due("behind a COMMIT", x.place(1), 0);
        x.put(1, 1, 5);
        x.undo(1);
        x.open(1);
        due("behind an END", x.place(1), 0);
        due("nothing to undo", x.undo(1), 0);
        x.open(1);
        x.put(1, 1, 5);
        x.crash();
        x.recover();
        x.open(1);
        due("behind a crash", x.place(1), 0);
        due("the value of ahead", x.read(1, 1), 1);
    }

    // ---- locks

    private static void whatIsLocked() {
        PageLoom x = committedWith(1, 2, 3);
        x.open(0);
        x.open(1);
        x.read(0, 1);
        x.put(0, 2, 5);
        x.take(0, 3);
        x.read(0, 11);
        x.take(0, 12);
        for (int key : new int[] {1, 2, 3, 11, 12}) {
            due("locked", x.holder(key), 0);
            due("its own", x.read(0, key) >= -1, true);
            due("another one reads", x.read(1, key), PageLoom.WAITS);
            due("another one takes", x.take(1, key), PageLoom.WAITS);
            due("another one puts", x.put(1, key, 1), PageLoom.WAITS);
        }
        due("one not locked", x.holder(4), PageLoom.NONE);
        x.back(0, 0);
        due("back() frees none", x.holder(2), 0);
        x.commit(0);
        for (int key = 0; key < 32; key++) {
            due("free", x.holder(key), PageLoom.NONE);
        }
        due("nobody waits", x.waitsFor(1), PageLoom.NONE);
    }

    private static void lockedUntilItEnds() {
        PageLoom x = allOpen();
        x.put(0, 1, 1);
        x.put(1, 2, 2);
        due("waits", x.read(2, 1), PageLoom.WAITS);
        due("waits", x.read(3, 2), PageLoom.WAITS);
        x.undo(0);
        due("free", x.holder(1), PageLoom.NONE);
        due("2 does not wait, nor has it the key", x.waitsFor(2), PageLoom.NONE);
        due("another one's stays", x.holder(2), 1);
        due("3 waits", x.waitsFor(3), 1);
        due("2 has it when it calls", x.read(2, 1), PageLoom.NONE);
        due("locked", x.holder(1), 2);
    }

    private static void nothingElseHappens() {
        PageLoom x = with(0, upTo(5));
        x.open(1);
        String before = allOf(x);
        due("read", x.read(1, 0), PageLoom.WAITS);
        due("take", x.take(1, 1), PageLoom.WAITS);
        due("put", x.put(1, 4, 9), PageLoom.WAITS);
        due("but that", x.waitsFor(1), 0);
        due("place", x.place(1), 0);
        dueText("all", allOf(x), before);
    }

    private static void waitingEnds() {
        CallWith[] calls = {
            (x, t) -> x.read(t, 20), (x, t) -> x.take(t, 20), (x, t) -> x.put(t, 20, 1), (x, t) -> x.place(t),
            (x, t) -> x.back(t, 0), (x, t) -> x.commit(t), (x, t) -> x.undo(t),
        };
        for (CallWith call : calls) {
            PageLoom x = with(0, 5);
            x.open(1);
            due("waits", x.read(1, 5), PageLoom.WAITS);
            due("waits", x.waitsFor(1), 0);
            call.now(x, 1);
            due("waits no more", x.waitsFor(1), PageLoom.NONE);
        }
        PageLoom x = with(0, 5);
        x.open(1);
        x.read(1, 5);
        x.crash();
        due("nor behind a crash", x.waitsFor(1), PageLoom.NONE);
    }

    private static void waitingGoesOn() {
        PageLoom x = with(0, 5);
        x.open(1);
        x.open(2);
        x.read(1, 5);
        x.mark();
        x.write(0);
        x.back(0, 0);
        x.put(0, 5, 6);
        x.read(2, 7);
        x.commit(2);
        wrongArgument("a call that throws", () -> x.read(1, 32));
        wrongState("open", () -> open(x, 1));
        due("waits", x.waitsFor(1), 0);
        due("for another one now", x.read(1, 5), PageLoom.WAITS);
    }

    // ---- rings and victims

    /** 0 has the key 0, and 1 the key 1, with so many records; who calls comes last. */
    private static void ringOfTwo(int first, int second, int caller, int victim) {
        PageLoom x = allOpen();
        holds(x, 0, 0, first);
        holds(x, 1, 1, second);
        int other = 1 - caller;
        due("waits", x.read(other, caller), PageLoom.WAITS);
        int answer = x.read(caller, other);
        String what = first + " and " + second + " records, called by " + caller + ", ";
        due(what + "the victim is told", answer == PageLoom.VICTIM, caller == victim);
        if (caller != victim) {
            due(what + "the key is not there any more", answer, PageLoom.NONE);
            due(what + "the caller has it", x.holder(other), caller);
        }
        due(what + "the victim has its key no more", x.holder(victim) == victim, false);
        due(what + "nobody waits", x.waitsFor(0) + x.waitsFor(1), 2 * PageLoom.NONE);
        due(what + "the other one has its key", x.holder(1 - victim), 1 - victim);
        wrongState("place of the victim", () -> x.place(victim));
        due("the other one is open", x.place(1 - victim) >= 0, true);
        due("its END", x.record(x.records(), 0), END);
        due("of the victim", x.record(x.records(), 1), victim);
    }

    private static void theFewestRecords() {
        ringOfTwo(2, 1, 0, 1);
        ringOfTwo(2, 1, 1, 1);
        ringOfTwo(1, 2, 0, 0);
        ringOfTwo(1, 2, 1, 0);
        ringOfTwo(0, 1, 0, 0);
        ringOfTwo(0, 1, 1, 0);
        ringOfTwo(1, 0, 0, 1);
    }

    private static void theHighestOfSeveral() {
        ringOfTwo(1, 1, 0, 1);
        ringOfTwo(1, 1, 1, 1);
        ringOfTwo(0, 0, 0, 1);
        ringOfTwo(0, 0, 1, 1);
        ringOfTwo(3, 3, 0, 1);
    }

    /** Each call that locks tells WAITS, then VICTIM, or goes on when another one was the victim. */
    private static void answersOf(String what, CallWith onKeyZero, int answerOfNone) {
        PageLoom x = allOpen();
        holds(x, 0, 0, 2);
        holds(x, 1, 1, 1);
        due(what, onKeyZero.now(x, 1), PageLoom.WAITS);
        due("waits for", x.waitsFor(1), 0);
        due("0 waits, and 1 is the victim", x.read(0, 1), PageLoom.NONE);
        PageLoom y = allOpen();
        holds(y, 0, 0, 2);
        holds(y, 1, 1, 1);
        due("0 waits", y.read(0, 1), PageLoom.WAITS);
        due(what, onKeyZero.now(y, 1), PageLoom.VICTIM);
        wrongState("1 has ended", () -> y.place(1));
        due("0 has its key", y.holder(0), 0);
        PageLoom z = allOpen();
        holds(z, 0, 0, 1);
        holds(z, 1, 1, 2);
        due("0 waits", z.read(0, 1), PageLoom.WAITS);
        due(what + " when 0 is undone", onKeyZero.now(z, 1), answerOfNone);
        due("1 has the key", z.holder(0), 1);
    }

    private static void answersOfPut() {
        answersOf("put", (x, t) -> x.put(t, 0, 7), 0);
    }

    private static void answersOfTake() {
        answersOf("take", (x, t) -> x.take(t, 0), PageLoom.NONE);
        PageLoom x = committedWith(5);
        x.open(0);
        due("take", x.take(0, 5), 5);
        due("take", x.take(0, 5), PageLoom.NONE);
        due("take of one never put", x.take(0, 6), PageLoom.NONE);
        due("one CHANGE", x.records(), 3);
        due("locked", x.holder(6), 0);
    }

    private static void answersOfRead() {
        answersOf("read", (x, t) -> x.read(t, 0), PageLoom.NONE);
        PageLoom x = committedWith(5);
        x.open(0);
        due("read", x.read(0, 5), 5);
        due("read of one never put", x.read(0, 6), PageLoom.NONE);
        x.take(0, 5);
        due("read of one taken away", x.read(0, 5), PageLoom.NONE);
        due("locked", x.holder(6), 0);
    }

    private static void undosAreRecords() {
        PageLoom x = allOpen();
        holds(x, 0, 0, 1);
        holds(x, 1, 1, 1);
        due("back", x.back(1, 0), 1);
        due("0 waits", x.read(0, 1), PageLoom.WAITS);
        due("0 has one record, 1 has two", x.read(1, 0), PageLoom.NONE);
        wrongState("0 was the victim", () -> x.place(0));
    }

    private static void smallActionsAreNobodys() {
        PageLoom x = committedWith(upTo(4));
        x.open(0);
        x.open(1);
        x.put(0, 0, 9);
        x.put(1, 4, 9);
        dueKinds(x, 6, CHANGE, SPLIT, CHANGE);
        due("0 waits", x.read(0, 4), PageLoom.WAITS);
        due("1 has one record, as 0", x.read(1, 0), PageLoom.VICTIM);
    }

    private static void sinceItWasOpened() {
        PageLoom x = allOpen();
        holds(x, 1, 1, 5);
        x.commit(1);
        x.open(1);
        holds(x, 0, 0, 2);
        holds(x, 1, 1, 1);
        due("0 waits", x.read(0, 1), PageLoom.WAITS);
        due("1 has one record, 0 has two", x.read(1, 0), PageLoom.VICTIM);
        x.open(1);
        x.put(1, 5, 5);
        x.back(1, 0);
        x.crash();
        x.recover();
        x.open(0);
        x.open(1);
        holds(x, 0, 0, 1);
        holds(x, 1, 1, 0);
        x.read(0, 1);
        due("behind a crash they begin anew", x.read(1, 0), PageLoom.VICTIM);
    }

    /** 0 waits for 1, 1 for 2, 2 for 3: no ring, until 3 waits for 0. */
    private static PageLoom chainOfFour(int... records) {
        PageLoom x = allOpen();
        for (int t = 0; t < 4; t++) {
            holds(x, t, t, records[t]);
        }
        for (int t = 0; t < 3; t++) {
            due("waits", x.read(t, t + 1), PageLoom.WAITS);
        }
        for (int t = 0; t < 3; t++) {
            due("still waits", x.waitsFor(t), t + 1);
        }
        return x;
    }

    private static void ringOfFour() {
        PageLoom third = chainOfFour(3, 2, 1, 2);
        due("3 waits for 0 all the same", third.read(3, 0), PageLoom.WAITS);
        due("1 waits no more", third.waitsFor(1), PageLoom.NONE);
        due("0 waits", third.waitsFor(0), 1);
        due("3 waits", third.waitsFor(3), 0);
        wrongState("2 was the victim", () -> third.place(2));
        due("2's key is free", third.holder(2), PageLoom.NONE);
        PageLoom first = chainOfFour(1, 2, 3, 2);
        due("0 was the victim", first.read(3, 0), PageLoom.NONE);
        due("3 has the key", first.holder(0), 3);
        due("1 waits", first.waitsFor(1), 2);
        PageLoom last = chainOfFour(1, 1, 1, 1);
        due("the highest one", last.read(3, 0), PageLoom.VICTIM);
        due("2 waits no more", last.waitsFor(2), PageLoom.NONE);
        due("1 waits", last.waitsFor(1), 2);
    }

    private static void ringOfThreeAndOneBeside() {
        PageLoom x = allOpen();
        for (int t = 0; t < 4; t++) {
            holds(x, t, t, t == 3 ? 0 : 4 - t);
        }
        due("3 waits for 0", x.read(3, 0), PageLoom.WAITS);
        due("0 waits for 1", x.read(0, 1), PageLoom.WAITS);
        due("1 waits for 2", x.read(1, 2), PageLoom.WAITS);
        // 3 has the fewest records, but is not on the ring.
        due("2 is the victim", x.read(2, 0), PageLoom.VICTIM);
        due("3 waits", x.waitsFor(3), 0);
        due("0 waits", x.waitsFor(0), 1);
        due("1 waits no more", x.waitsFor(1), PageLoom.NONE);
    }

    private static void noRing() {
        PageLoom x = chainOfFour(1, 1, 1, 1);
        due("3 reads what nobody has", x.read(3, 20), PageLoom.NONE);
        due("3 does not wait", x.waitsFor(3), PageLoom.NONE);
        due("0 waits", x.waitsFor(0), 1);
        due("no END", x.records(), 4);
    }

    // ---- places

    private static void placesTold() {
        PageLoom x = committedWith(upTo(4));
        x.open(0);
        x.open(1);
        due("none", x.place(0), 0);
        x.put(1, 3, 9);
        x.mark();
        x.read(0, 2);
        due("none by another one, by a MARK, by reading", x.place(0), 0);
        x.put(0, 4, 4);
        dueKinds(x, 8, SPLIT, CHANGE);
        due("the CHANGE", x.place(0), 9);
        x.mark();
        due("still", x.place(0), 9);
        x.take(0, 0);
        x.take(0, 1);
        due("GO and TAKE OVER are nobody's", x.record(x.records(), 1), PageLoom.NONE);
        due("the CHANGE ahead of them", x.place(0), 12);
        x.back(0, 11);
        due("an UNDO", x.record(x.place(0), 0), UNDO);
    }

    private static void changesAboveThePlace() {
        for (int place = 0; place <= 5; place++) {
            PageLoom x = with(0, 1, 2, 3, 4);
            x.mark();
            due("back to " + place, x.back(0, place), Math.max(0, 4 - place));
            due("the one at the place stays", x.page(0, 2), Math.min(place, 4));
            due("no END", x.records(), 5 + Math.max(0, 4 - place));
            due("locked", x.holder(4), 0);
            due("once more", x.back(0, place), 0);
            due("commit", x.commit(0), x.records());
            dueSound(x);
        }
    }

    private static void placesOfOthers() {
        PageLoom x = allOpen();
        x.put(1, 1, 1);
        x.put(0, 2, 2);
        x.put(1, 3, 3);
        x.put(0, 4, 4);
        due("above another one's record", x.back(0, 3), 1);
        due("nothing of 1 is undone", x.entry(0, 2), 3003);
        due("none above", x.back(1, 5), 0);
        due("without records", x.back(2, 0), 0);
        due("above the first one", x.back(1, 1), 1);
        dueCells(x, 0, 1, "1001 2002");
    }

    private static void undosAreNeverUndone() {
        PageLoom x = committedWith(1);
        x.open(0);
        x.put(0, 1, 2);
        x.put(0, 1, 3);
        x.put(0, 1, 4);
        due("back", x.back(0, 4), 1);
        due("UNDO of 5", x.record(6, 3), 5);
        due("back to the UNDO of 5", x.back(0, 5), 0);
        due("back", x.back(0, 3), 1);
        due("UNDO of 4", x.record(7, 3), 4);
        x.put(0, 1, 5);
        due("a place between UNDOs", x.back(0, 6), 1);
        due("UNDO of 8", x.record(9, 3), 8);
        due("entry", x.entry(0, 0), 1002);
        due("undo", x.undo(0), 1);
        due("UNDO of 3", x.record(10, 3), 3);
        dueKinds(x, 11, END);
        dueCells(x, 0, 1, "1001");
        dueSound(x);
    }

    private static void backAndForth() {
        PageLoom x = new PageLoom();
        x.open(0);
        for (int round = 0; round < 5; round++) {
            x.put(0, 1, round);
            x.put(0, 2, round);
            due("back", x.back(0, 0), 2);
            dueCells(x, 0, 1, "");
        }
        due("records", x.records(), 20);
        due("undo", x.undo(0), 0);
        dueKinds(x, 21, END);
    }

    // ---- ends

    private static void endsWithoutRecords() {
        PageLoom x = allOpen();
        due("commit", x.commit(0), 1);
        due("a COMMIT", x.record(1, 0), COMMIT);
        due("durable", x.durable(), 1);
        due("undo", x.undo(1), 0);
        due("an END", x.record(2, 0), END);
        due("not durable", x.durable(), 1);
        due("commit", x.commit(2), 3);
        due("durable, the END too", x.durable(), 3);
        due("pages are not used", x.page(0, 3), 0);
    }

    private static void endsOfWhoWaits() {
        PageLoom x = with(0, 1);
        x.open(1);
        x.open(2);
        due("waits", x.read(1, 1), PageLoom.WAITS);
        due("waits", x.read(2, 1), PageLoom.WAITS);
        due("commit", x.commit(1), 2);
        due("undo", x.undo(2), 0);
        due("waits", x.waitsFor(1), PageLoom.NONE);
        due("waits", x.waitsFor(2), PageLoom.NONE);
        due("locked", x.holder(1), 0);
    }

    private static void marksOfNothing() {
        PageLoom x = new PageLoom();
        due("mark", x.mark(), 1);
        due("a MARK", x.record(1, 0), MARK);
        due("durable", x.durable(), 1);
        due("mark", x.mark(), 2);
        x.open(0);
        due("of one without records", x.mark(), 3);
        x.crash();
        due("recover", x.recover(), 0);
        due("the MARK alone is read", x.pass(0), 1);
        due("no END", x.records(), 3);
    }

    private static void marksAreNobodys() {
        PageLoom x = with(0, 1);
        x.mark();
        x.put(0, 2, 2);
        x.mark();
        due("undo passes them", x.undo(0), 2);
        due("UNDO of 3", x.record(5, 3), 3);
        due("UNDO of 1", x.record(6, 3), 1);
    }

    /** All kinds of records, with what each of them has, and what it has not. */
    private static void recordsOfAllKinds() {
        PageLoom x = committedWith(upTo(5));
        x.open(3);
        x.put(3, 31, 7);
        x.mark();
        takeAll(x, 3, 0, 1);
        x.back(3, 9);
        x.undo(3);
        int[][] want = {
            {0, 0, 0, -1, 1}, {0, 0, 1, -1, 1}, {0, 0, 2, -1, 1}, {0, 0, 3, -1, 1}, {5, -1, -1, -1, 3},
            {0, 0, 4, -1, 1}, {2, 0, -1, -1, 0}, {0, 3, 31, -1, 1}, {4, -1, -1, -1, 0}, {0, 3, 0, -1, 1},
            {0, 3, 1, -1, 1}, {6, -1, -1, -1, 2}, {7, -1, -1, -1, 2}, {1, 3, 1, 11, 1}, {1, 3, 0, 10, 1},
            {1, 3, 31, 8, 1}, {3, 3, -1, -1, 0},
        };
        due("records", x.records(), want.length);
        for (int record = 1; record <= want.length && record <= x.records(); record++) {
            for (int what = 0; what < 5; what++) {
                due("record(" + record + ", " + what + ")", x.record(record, what), want[record - 1][what]);
            }
        }
        dueSound(x);
    }

    // ---- what was committed

    private static void plainEdges() {
        PageLoom x = allOpen();
        x.put(0, 1, 10);
        x.put(0, 1, 0);
        due("not committed", x.plain(1), PageLoom.NONE);
        x.commit(0);
        due("the last value, 0", x.plain(1), 0);
        x.put(1, 1, 5);
        x.back(1, 0);
        x.commit(1);
        due("what was undone to the value of ahead", x.plain(1), 0);
        x.put(2, 2, 5);
        x.back(2, 0);
        x.take(2, 1);
        x.commit(2);
        due("what was undone to none", x.plain(2), PageLoom.NONE);
        due("taken away", x.plain(1), PageLoom.NONE);
        x.put(3, 1, 7);
        x.put(3, 31, 999);
        x.undo(3);
        due("undone", x.plain(1), PageLoom.NONE);
        x.open(0);
        x.put(0, 1, 8);
        x.commit(0);
        due("put again", x.plain(1), 8);
        due("never put", x.plain(31), PageLoom.NONE);
        dueSound(x);
    }

    private static void plainInTheOrderOfCommits() {
        PageLoom x = allOpen();
        x.put(1, 1, 1);
        x.put(0, 2, 1);
        x.put(0, 3, 1);
        x.commit(0);
        x.put(2, 3, 2);
        x.put(2, 2, 2);
        x.commit(2);
        x.open(0);
        x.put(0, 2, 3);
        x.commit(1);
        x.commit(0);
        due("1", x.plain(1), 1);
        due("2", x.plain(2), 3);
        due("3", x.plain(3), 2);
        dueSound(x);
    }

    private static void plainOfDurableCommits() {
        PageLoom x = with(0, 1);
        x.commit(0);
        x.open(0);
        x.put(0, 1, 2);
        x.crashAt(2);
        due("the COMMIT is not durable", x.commit(0), PageLoom.CRASHED);
        due("the CHANGE is", x.record(3, 0), CHANGE);
        due("plain", x.plain(1), 1);
        x.recover();
        due("plain", x.plain(1), 1);
        dueSound(x);
    }

    // ---- many calls

    private static void fiveHundredAndTwelveCalls() {
        PageLoom x = new PageLoom();
        x.open(0);
        for (int i = 0; i < 198; i++) {
            due("put", x.put(0, 5, i), 0);
        }
        due("undo", x.undo(0), 198);
        for (int calls = 200; calls < 510; calls += 2) {
            x.open(calls % 4);
            due("commit", x.commit(calls % 4), x.records());
        }
        due("records", x.records(), 198 + 198 + 1 + 155);
        due("read out of a long log", x.plain(5), PageLoom.NONE);
        due("the 512th call", x.check(), 0);
    }

    private static void locksAndRings() {
        edge(2, "Opens a transaction.", TransactionEdgesTest::openingIsNoMore);
        edge(2, "There are the transactions 0 to 3, each open or not.", TransactionEdgesTest::openedAgain);
        edge(24, "What one reads or changes is locked by it until it ends.", TransactionEdgesTest::whatIsLocked);
        edge(24, "locked by it until it ends", TransactionEdgesTest::lockedUntilItEnds);
        edge(3, "it waits for that one, and nothing else happens, but that",
                TransactionEdgesTest::nothingElseHappens);
        edge(25, "One waits until it is called again, whatever for, or the other one ends.",
                TransactionEdgesTest::waitingEnds);
        edge(25, "NONE if it does not wait", TransactionEdgesTest::waitingGoesOn);
        edge(3, "the victim is the one that has the fewest records in the log since it was opened",
                TransactionEdgesTest::theFewestRecords);
        edge(3, "of several the highest one", TransactionEdgesTest::theHighestOfSeveral);
        edge(3, "Returns 0, or WAITS, VICTIM, CRASHED, FULL.", TransactionEdgesTest::answersOfPut);
        edge(4, "Returns the value, NONE if it is not there, or WAITS, VICTIM", TransactionEdgesTest::answersOfTake);
        edge(5, "Returns the value, NONE if it is not there, or WAITS, VICTIM", TransactionEdgesTest::answersOfRead);
        edge(5, "the fewest records in the log", TransactionEdgesTest::undosAreRecords);
        edge(20, "NONE for MARK and small actions", TransactionEdgesTest::smallActionsAreNobodys);
        edge(4, "records in the log since it was opened", TransactionEdgesTest::sinceItWasOpened);
        edge(5, "and all is looked at again, unless that is the one that called", TransactionEdgesTest::ringOfFour);
        edge(5, "of those on the ring", TransactionEdgesTest::ringOfThreeAndOneBeside);
        edge(5, "from each one that waits to the one for which it waits one comes back", TransactionEdgesTest::noRing);
    }

    private static void placesAndEnds() {
        edge(6, "Returns its number; 0 if it has none.", TransactionEdgesTest::placesTold);
        edge(7, "all CHANGEs with numbers above it are undone; what is locked stays so",
                TransactionEdgesTest::changesAboveThePlace);
        edge(7, "0 to the number of the latest record of the log", TransactionEdgesTest::placesOfOthers);
        edge(7, "for an UNDO one goes on with the record of the transaction that is ahead of the one that it has undone",
                TransactionEdgesTest::undosAreNeverUndone);
        edge(7, "To go back to a place is the same, down to that, without an END.", TransactionEdgesTest::backAndForth);
        edge(8, "a COMMIT is in the log, and the log is made durable up to it",
                TransactionEdgesTest::endsWithoutRecords);
        edge(9, "When there is none left, an END is in the log.", TransactionEdgesTest::endsOfWhoWaits);
        edge(10, "tells all open transactions that have records", TransactionEdgesTest::marksOfNothing);
        edge(10, "1 its transaction, NONE for MARK", TransactionEdgesTest::marksAreNobodys);
        edge(20, "2 the key of a CHANGE or UNDO, for others NONE; 3 the number of the record that an UNDO has undone, for "
                + "others NONE; 4 how many pages it changes", TransactionEdgesTest::recordsOfAllKinds);
        edge(26, "Returns the value; NONE if it is not there.", TransactionEdgesTest::plainEdges);
        edge(26, "in the order of these, found plainly", TransactionEdgesTest::plainInTheOrderOfCommits);
        edge(26, "by all transactions whose COMMIT is durable", TransactionEdgesTest::plainOfDurableCommits);
        edge(1, "An object is used for at most 512 calls after it has been made",
                TransactionEdgesTest::fiveHundredAndTwelveCalls);
    }

    public static void main(String[] args) {
        locksAndRings();
        placesAndEnds();
        end();
    }
}
