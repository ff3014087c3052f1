import java.util.List;
import java.util.TreeMap;

/**
 * One long run of calls, crashed ahead of each of its writes, then recovered with crashes ahead of each write of
 * recovering too. What is due is kept by the test itself, as a map of what was committed, and by nothing else.
 */
public final class CrashTest extends Checks {
    private static final int CHANGE = 0, UNDO = 1, COMMIT = 2, END = 3;

    /**
     * Each call is told by its name, its transaction (its page, for a write), and its key; no key is wanted by two
     * open transactions, so that nobody waits. Pages SPLIT, GO and are TAKEn OVER, and MARKs stand between.
     */
    private static final String RUN = "open 0, open 1, put 0 0, put 0 2, put 0 4, put 0 6, put 0 8, put 1 1, put 1 3, "
            + "put 1 5, put 0 10, put 0 12, commit 0, mark, put 1 7, put 1 9, put 1 11, put 1 13, write 1, write 3, "
            + "open 0, take 0 0, take 0 2, put 0 14, put 0 16, put 0 18, keep 1, put 1 15, put 1 17, take 1 1, "
            + "back 1, put 1 19, commit 1, mark, open 1, take 1 3, take 1 5, take 0 4, take 0 6, write 0, put 0 20, "
            + "put 0 22, put 0 24, put 1 21, put 1 23, undo 1, open 2, put 2 25, put 2 27, put 2 29, commit 0, "
            + "open 0, take 0 8, take 0 10, take 0 12, take 0 14, mark, take 0 16, take 0 18, take 0 20, keep 0, "
            + "put 0 8, put 0 12, back 0, undo 2, open 3, take 3 7, take 3 9, take 3 11, take 3 13, take 3 19, "
            + "commit 3, open 1, take 1 15, take 1 17, commit 0, open 0, take 0 22, take 0 24, write 2, mark, "
            + "take 0 20, commit 1, take 0 8, take 0 12, open 3, take 3 19, take 3 15, put 3 1, put 3 3, commit 0, "
            + "put 3 5, put 3 7, put 3 9, undo 3";

    private static PageLoom x;
    private static TreeMap<Integer, Integer> committed;
    /** What each transaction has changed, now and at the place that it keeps. */
    private static final List<TreeMap<Integer, Integer>> CHANGES = fourMaps();
    private static final List<TreeMap<Integer, Integer>> KEPT = fourMaps();
    private static final int[] PLACES = new int[4];

    private static List<TreeMap<Integer, Integer>> fourMaps() {
        return List.of(new TreeMap<>(), new TreeMap<>(), new TreeMap<>(), new TreeMap<>());
    }

    private static void copy(TreeMap<Integer, Integer> from, TreeMap<Integer, Integer> to) {
        to.clear();
        to.putAll(from);
    }

    private static int valueFor(int transaction, int key) {
        return 100 * transaction + 3 * key + x.records() % 2;
    }

    /** Does a call, keeps what it changes if it was done, and answers whether there was no crash. */
    private static boolean done(String call) {
        String[] words = call.split(" ");
        int t = Integer.parseInt(words.length > 1 ? words[1] : "0");
        int key = Integer.parseInt(words.length > 2 ? words[2] : "0");
        int answer = 0;
        switch (words[0]) {
            case "open" -> {
                x.open(t);
                CHANGES.get(t).clear();
            }
            case "put" -> {
                int value = valueFor(t, key);
                answer = x.put(t, key, value);
                CHANGES.get(t).put(key, value);
            }
            case "take" -> {
                answer = x.take(t, key);
                CHANGES.get(t).put(key, PageLoom.NONE);
            }
            case "keep" -> {
                PLACES[t] = x.place(t);
                copy(CHANGES.get(t), KEPT.get(t));
            }
            case "back" -> {
                answer = x.back(t, PLACES[t]);
                copy(KEPT.get(t), CHANGES.get(t));
            }
            case "commit" -> {
                answer = x.commit(t);
                if (answer != PageLoom.CRASHED) {
                    committed.putAll(CHANGES.get(t));
                }
            }
            case "undo" -> answer = x.undo(t);
            case "mark" -> answer = x.mark();
            default -> answer = x.write(t);
        }
        due(call + " neither waits nor wants pages", answer >= PageLoom.NONE || answer == PageLoom.CRASHED, true);
        return answer != PageLoom.CRASHED;
    }

    /** Does the run on a new object with a crash told, and answers how many writes were done. */
    private static int runWithCrash(int write) {
        x = new PageLoom();
        committed = new TreeMap<>();
        x.crashAt(write);
        for (String call : RUN.split(", ")) {
            if (!done(call)) {
                break;
            }
            dueLogAheadOfPages(call);
        }
        return x.writes();
    }

    /** No page on the disk may tell of a record that is not durable, and no page is in two frames. */
    private static void dueLogAheadOfPages(String where) {
        for (int page = 0; page < 24; page++) {
            int inFrames = 0;
            for (int frame = 0; frame < 4; frame++) {
                inFrames += x.frame(frame, 0) == page ? 1 : 0;
            }
            due(where + ": page " + page + " in frames", inFrames, x.page(page, 3));
            if (inFrames == 0 && x.page(page, 1) > x.durable()) {
                tell(where + ": page " + page + " came to the disk ahead of its record");
            }
        }
        due(where + ": durable at most to the latest record", x.durable() <= x.records(), true);
    }

    private static void dueGone() {
        due("records that are not durable are gone", x.records(), x.durable());
        due("hand", x.hand(), 0);
        dueFrames(x, -1, -1, -1, -1);
        for (int key = 0; key < 32; key++) {
            due("holder of " + key, x.holder(key), PageLoom.NONE);
            due("plain " + key, x.plain(key), committed.getOrDefault(key, PageLoom.NONE));
        }
        dueLogAheadOfPages("behind a crash");
    }

    private static int tornPages() {
        int torn = 0;
        for (int page = 0; page < 24; page++) {
            torn += x.page(page, 0) == PageLoom.NONE ? 1 : 0;
        }
        return torn;
    }

    /** Records that undo are never undone themselves, and nothing is undone twice. */
    private static void dueUndoneOnce(String where) {
        boolean[] undone = new boolean[x.records() + 1];
        for (int record = 1; record <= x.records(); record++) {
            if (x.record(record, 0) == UNDO) {
                int change = x.record(record, 3);
                due(where + ": kind of what record " + record + " undoes", x.record(change, 0), CHANGE);
                due(where + ": transaction of it", x.record(change, 1), x.record(record, 1));
                due(where + ": key of it", x.record(change, 2), x.record(record, 2));
                due(where + ": record " + change + " is undone already", undone[change], false);
                undone[change] = true;
            }
        }
    }

    private static void dueRecovered(String where) {
        dueSound(x);
        dueLogAheadOfPages(where);
        dueUndoneOnce(where);
        int[] latestKind = {END, END, END, END};
        for (int record = 1; record <= x.records(); record++) {
            if (x.record(record, 1) != PageLoom.NONE) {
                latestKind[x.record(record, 1)] = x.record(record, 0);
            }
        }
        for (int t = 0; t < 4; t++) {
            due(where + ": " + t + " has ended", latestKind[t] == COMMIT || latestKind[t] == END, true);
        }
        x.open(2);
        for (int key = 0; key < 32; key++) {
            due(where + ": read " + key, x.read(2, key), committed.getOrDefault(key, PageLoom.NONE));
        }
        x.undo(2);
    }

    private static void aheadOfEachWrite() {
        int writes = runWithCrash(0);
        due("the run is long enough", writes > 300, true);
        boolean[] kinds = new boolean[8];
        for (int record = 1; record <= x.records(); record++) {
            kinds[x.record(record, 0)] = true;
        }
        for (int kind = 0; kind < kinds.length; kind++) {
            due("records of the kind " + kind + " in the run", kinds[kind], true);
        }
        for (int write = 1; write <= writes; write++) {
            due("writes ahead of the crash", runWithCrash(write), write - 1);
            dueGone();
            int torn = tornPages();
            due("at most one page is torn", torn <= 1, true);
            due("recover", x.recover(), 0);
            due("writes of halves that mended a page", x.pass(3), 2 * torn);
            due("pages that are torn", tornPages(), 0);
            dueRecovered("crash ahead of write " + write);
        }
    }

    /** For some of the crashes of the run: recovering is crashed ahead of its 1st write, its 2nd one, and so on. */
    private static void aheadOfEachWriteOfRecovering() {
        int writes = runWithCrash(0);
        for (int write = 1; write <= writes; write += 3) {
            boolean again = true;
            for (int second = 1; again && second < 400; second++) {
                runWithCrash(write);
                x.crashAt(second);
                again = x.recover() == PageLoom.CRASHED;
                if (again) {
                    dueGone();
                    due("once more", x.recover(), 0);
                    dueRecovered("crashes ahead of writes " + write + " and " + second);
                }
            }
            due("recovering has an end", again, false);
        }
    }

    /** Crashes that come again and again, each ahead of a later write of recovering than the one before. */
    private static void againAndAgain() {
        int writes = runWithCrash(0);
        for (int write = 2; write <= writes; write += 5) {
            runWithCrash(write);
            int tries = 0;
            do {
                tries++;
                x.crashAt(tries);
            } while (x.recover() == PageLoom.CRASHED && tries < 200);
            due("recovering has an end", tries < 200, true);
            x.crashAt(0);
            dueRecovered("crashes again and again behind write " + write);
        }
    }

    public static void main(String[] args) {
        edge(14, "A store of pages that survives a crash ahead of any write", CrashTest::aheadOfEachWrite);
        edge(14, "Returns 0; or CRASHED, and it can be done once more.", CrashTest::aheadOfEachWriteOfRecovering);
        edge(14, "and it can be done once more", CrashTest::againAndAgain);
        end();
    }
}
