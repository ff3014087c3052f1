import java.io.IOException;
import java.nio.file.Files;
import java.nio.file.Path;

/**
 * What the tests share: answers that are due, calls that are refused, and all that can be asked of an object. Each
 * edge is told with its promise and the words of the document that name it; the words must stand in the document.
 */
abstract class Checks {
    /** A call, and what it answers; those that answer nothing count 0. */
    interface Call {
        long now();
    }

    /** A call with one argument that is varied. */
    interface CallWith {
        long now(PageLoom x, int argument);
    }

    interface Edge {
        void holds();
    }

    private static int wrong = 0;
    private static String told = "";
    private static String document = "";

    static void edge(int promise, String words, Edge edge) {
        told = "promise " + promise + ", \"" + words + "\"";
        if (!documentWords().contains(words)) {
            tell("these words do not stand in the document");
        }
        edge.holds();
    }

    /** Some runs of calls for a promise as a whole. */
    static void promise(int promise, Edge runs) {
        told = "promise " + promise;
        runs.holds();
    }

    /** The document with single blanks between its words, and without the marks of its code. */
    private static String documentWords() {
        if (document.isEmpty()) {
            try {
                document = Files.readString(Path.of("../shared/DOC.md")).replace("`", "").replaceAll("\\s+", " ");
            } catch (IOException e) {
                tell("the document cannot be read: " + e);
            }
        }
        return document;
    }

    static void tell(String what) {
        wrong++;
        System.out.println(told + ": " + what);
    }

    static void due(String what, long got, long want) {
        if (got != want) {
            tell(what + " answered " + got + ", due is " + want);
        }
    }

    static void due(String what, boolean got, boolean want) {
        due(what, got ? 1 : 0, want ? 1 : 0);
    }

    static void dueText(String what, String got, String want) {
        if (!got.equals(want)) {
            tell(what + " is " + got + ", due is " + want);
        }
    }

    static void refused(String what, Class<? extends RuntimeException> want, Call call) {
        try {
            tell(what + " answered " + call.now() + ", due is " + want);
        } catch (RuntimeException e) {
            if (e.getClass() != want) {
                tell(what + " threw " + e.getClass() + ", due is " + want);
            }
        }
    }

    static void wrongArgument(String what, Call call) {
        refused(what, IllegalArgumentException.class, call);
    }

    static void wrongState(String what, Call call) {
        refused(what, IllegalStateException.class, call);
    }

    static void wrongIndex(String what, Call call) {
        refused(what, IndexOutOfBoundsException.class, call);
    }

    /** A call that is refused must leave all that can be asked as it was. */
    static void refusedAndNothingChanged(String what, Class<? extends RuntimeException> want, PageLoom x, Call call) {
        String before = allOf(x);
        refused(what, want, call);
        if (!allOf(x).equals(before)) {
            tell(what + " has changed something");
        }
    }

    static long open(PageLoom x, int transaction) {
        x.open(transaction);
        return 0;
    }

    static long crashAt(PageLoom x, int write) {
        x.crashAt(write);
        return 0;
    }

    /** All entries of a page, told by entry(), with a blank between. */
    static String cells(PageLoom x, int page) {
        StringBuilder text = new StringBuilder();
        for (int at = 0; at < 40 && x.entry(page, at) != PageLoom.NONE; at++) {
            text.append(at == 0 ? "" : " ").append(x.entry(page, at));
        }
        return text.toString();
    }

    static void dueCells(PageLoom x, int page, int kind, String want) {
        due("kind of page " + page, x.page(page, 0), kind);
        dueText("what page " + page + " has", cells(x, page), want);
    }

    static void dueFrames(PageLoom x, int... pages) {
        for (int frame = 0; frame < 4; frame++) {
            due("page in frame " + frame, x.frame(frame, 0), pages[frame]);
        }
    }

    static void dueUsed(PageLoom x, int... used) {
        for (int frame = 0; frame < 4; frame++) {
            due("whether frame " + frame + " was used", x.frame(frame, 1), used[frame]);
        }
    }

    static void dueFirst(PageLoom x, int... records) {
        for (int frame = 0; frame < 4; frame++) {
            due("first record of frame " + frame, x.frame(frame, 2), records[frame]);
        }
    }

    /** The kinds of the records from one on, as record() tells them. */
    static void dueKinds(PageLoom x, int from, int... kinds) {
        due("latest record", x.records(), from + kinds.length - 1);
        for (int i = 0; i < kinds.length && from + i <= x.records(); i++) {
            due("kind of record " + (from + i), x.record(from + i, 0), kinds[i]);
        }
    }

    static void dueSound(PageLoom x) {
        due("agrees()", x.agrees(), true);
        due("check()", x.check(), 0);
    }

    static int freePages(PageLoom x) {
        int free = 0;
        for (int page = 0; page < 24; page++) {
            free += x.page(page, 0) == 0 ? 1 : 0;
        }
        return free;
    }

    /** Puts keys, each with itself as its value. */
    static void putAll(PageLoom x, int transaction, int... keys) {
        for (int key : keys) {
            due("put " + key, x.put(transaction, key, key), 0);
        }
    }

    static void takeAll(PageLoom x, int transaction, int... keys) {
        for (int key : keys) {
            due("take " + key, x.take(transaction, key), key);
        }
    }

    static PageLoom with(int transaction, int... keys) {
        PageLoom x = new PageLoom();
        x.open(transaction);
        putAll(x, transaction, keys);
        return x;
    }

    static PageLoom committedWith(int... keys) {
        PageLoom x = with(0, keys);
        x.commit(0);
        return x;
    }

    static int[] fromTo(int first, int behindLast) {
        int[] keys = new int[behindLast - first];
        for (int i = 0; i < keys.length; i++) {
            keys[i] = first + i;
        }
        return keys;
    }

    static int[] upTo(int many) {
        return fromTo(0, many);
    }

    static PageLoom crashed() {
        PageLoom x = committedWith(5);
        x.crash();
        return x;
    }

    /** Writes all pages, so that none differs. */
    static void writeAll(PageLoom x) {
        for (int page = 0; page < 24; page++) {
            x.write(page);
        }
    }

    static String allOf(PageLoom x) {
        StringBuilder text = new StringBuilder();
        text.append(x.records()).append(' ').append(x.durable()).append(' ').append(x.writes()).append(' ')
                .append(x.hand()).append(' ').append(x.agrees()).append(' ').append(x.check());
        for (int i = 0; i < 4; i++) {
            text.append(" f").append(x.frame(i, 0)).append(' ').append(x.frame(i, 1)).append(' ')
                    .append(x.frame(i, 2)).append(' ').append(x.waitsFor(i)).append(' ').append(x.pass(i));
        }
        for (int page = 0; page < 24; page++) {
            text.append(" p").append(x.page(page, 0)).append(' ').append(x.page(page, 1)).append(' ')
                    .append(x.page(page, 2)).append(' ').append(x.page(page, 3)).append(' ').append(cells(x, page));
        }
        for (int record = 1; record <= x.records(); record++) {
            for (int what = 0; what < 5; what++) {
                text.append(' ').append(x.record(record, what));
            }
        }
        for (int key = 0; key < 32; key++) {
            text.append(" k").append(x.holder(key)).append(' ').append(x.plain(key));
        }
        return text.toString();
    }

    static void end() {
        System.out.println(wrong == 0 ? "all answers are as due" : wrong + " answers are not as due");
        if (wrong != 0) {
            System.exit(1);
        }
    }
}
