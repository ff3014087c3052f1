/** The edges of the tree: pages that are full or empty, halves, first and last children, the root, pages that run out. */
public final class TreeEdgesTest extends Checks {
    private static final int CHANGE = 0, UNDO = 1, END = 3, SPLIT = 5, GO = 6, TAKE_OVER = 7;

    /** The root is a leaf with more than 4 keys by undoing: the first ones of those given, 4 of them put first. */
    private static PageLoom crowded(int... keys) {
        PageLoom x = committedWith(keys[0], keys[1], keys[2], keys[3]);
        x.open(1);
        x.open(2);
        for (int i = 4; i < keys.length; i++) {
            takeAll(x, 1, keys[i - 4]);
            putAll(x, 2, keys[i]);
        }
        x.commit(2);
        due("undo", x.undo(1), keys.length - 4);
        due("kind of the root", x.page(0, 0), 1);
        due("entries of the root", x.page(0, 2), keys.length);
        x.open(3);
        return x;
    }

    private static void putBy(PageLoom x, int transaction, int... keys) {
        x.open(transaction);
        putAll(x, transaction, keys);
        x.commit(transaction);
    }

    private static void takenBy(PageLoom x, int transaction, int... keys) {
        x.open(transaction);
        takeAll(x, transaction, keys);
    }

    /** All keys there are in one leaf, the root. */
    private static PageLoom allInOneLeaf() {
        PageLoom x = committedWith(upTo(4));
        takenBy(x, 1, upTo(4));
        putBy(x, 0, fromTo(4, 8));
        takenBy(x, 2, fromTo(4, 8));
        putBy(x, 0, fromTo(8, 12));
        takenBy(x, 3, fromTo(8, 12));
        putBy(x, 0, fromTo(12, 16));
        due("undo", x.undo(3) + x.undo(2) + x.undo(1), 12);
        takenBy(x, 1, upTo(16));
        putBy(x, 0, fromTo(16, 20));
        takenBy(x, 2, fromTo(16, 20));
        putBy(x, 0, fromTo(20, 24));
        takenBy(x, 3, fromTo(20, 24));
        putBy(x, 0, fromTo(24, 28));
        due("undo", x.undo(3) + x.undo(2), 8);
        takenBy(x, 2, fromTo(16, 28));
        putBy(x, 0, fromTo(28, 32));
        due("undo", x.undo(2) + x.undo(1), 28);
        return x;
    }

    // ---- pages and keys

    private static void pagesOfANewObject() {
        PageLoom x = new PageLoom();
        due("all but the root are free", freePages(x), 23);
        dueCells(x, 0, 1, "");
        x.crash();
        due("a leaf on the disk, too", x.page(0, 0), 1);
        due("recover", x.recover(), 0);
        due("no write was needed", x.writes(), 0);
        dueSound(x);
    }

    private static void allIsEmpty() {
        PageLoom x = new PageLoom();
        dueCells(x, 0, 1, "");
        due("records", x.records(), 0);
        due("durable", x.durable(), 0);
        due("writes", x.writes(), 0);
        dueFrames(x, -1, -1, -1, -1);
        due("hand", x.hand(), 0);
        for (int page = 0; page < 24; page++) {
            due("number", x.page(page, 1), 0);
            due("count", x.page(page, 2), 0);
            due("in a frame", x.page(page, 3), 0);
            due("nothing to write", x.write(page), 0);
        }
        String all = allOf(x);
        x.crash();
        x.recover();
        dueText("what is on the disk", allOf(x), all);
    }

    /** Ahead of the first child there is no key, also when it was not the first one before. */
    private static void keysAheadOfChildren() {
        PageLoom x = with(0, 24, 25, 30, 31, 29);
        dueCells(x, 0, 2, "1 3002");
        due("none behind", x.entry(0, 2), PageLoom.NONE);
        due("far behind", x.entry(0, Integer.MAX_VALUE), PageLoom.NONE);
        PageLoom y = committedWith(upTo(11));
        dueCells(y, 6, 2, "3 604 807");
        y.open(1);
        takeAll(y, 1, 4, 5);
        dueCells(y, 6, 2, "4 807");
        takeAll(y, 1, 6, 7);
        dueCells(y, 6, 2, "7");
        due("none behind", y.entry(6, 1), PageLoom.NONE);
        PageLoom z = with(0, upTo(11));
        // Page 3 had the key 4 ahead of it, until the root was SPLIT.
        due("the first child of the half that came", z.entry(6, 0), 3);
    }

    private static void leastAndGreatestEntries() {
        PageLoom x = new PageLoom();
        x.open(0);
        due("put", x.put(0, 0, 0), 0);
        due("one entry", x.page(0, 2), 1);
        due("key 0 with value 0", x.entry(0, 0), 0);
        due("no second one", x.entry(0, 1), PageLoom.NONE);
        due("put", x.put(0, 31, 999), 0);
        due("key 31 with value 999", x.entry(0, 1), 31999);
        due("value 0 is there", x.read(0, 0), 0);
        due("value 999", x.read(0, 31), 999);
        x.commit(0);
        due("plain 0", x.plain(0), 0);
        due("plain 999", x.plain(31), 999);
        x.open(1);
        due("take 0", x.take(1, 0), 0);
        due("not there any more", x.take(1, 0), PageLoom.NONE);
        due("undo", x.undo(1), 1);
        dueCells(x, 0, 1, "0 31999");
        dueSound(x);
    }

    private static void risingKeys() {
        PageLoom x = with(0, 20, 31, 0, 10);
        dueCells(x, 0, 1, "0 10010 20020 31031");
        x.take(0, 0);
        x.take(0, 31);
        dueCells(x, 0, 1, "10010 20020");
        x.put(0, 15, 15);
        x.put(0, 15, 16);
        dueCells(x, 0, 1, "10010 15016 20020");
    }

    /** With an empty cache, the frames tell which pages were looked into. */
    private static PageLoom coldWith(int... keys) {
        PageLoom x = committedWith(keys);
        writeAll(x);
        x.mark();
        x.crash();
        x.recover();
        dueFrames(x, -1, -1, -1, -1);
        x.open(1);
        return x;
    }

    private static void keysAtTheKeyBetween() {
        int[][] keyAndLeaf = {{0, 1}, {9, 1}, {10, 2}, {11, 2}, {19, 2}, {20, 3}, {21, 3}, {31, 3}};
        for (int[] pair : keyAndLeaf) {
            PageLoom x = coldWith(0, 1, 10, 11, 20, 21, 22);
            dueCells(x, 0, 2, "1 1002 2003");
            x.read(1, pair[0]);
            dueFrames(x, 0, pair[1], -1, -1);
        }
    }

    private static void keysLessThanAll() {
        PageLoom x = committedWith(4, 5, 10, 11, 20, 21, 22);
        x.open(1);
        takeAll(x, 1, 4, 5);
        dueCells(x, 0, 2, "2 2003");
        due("put", x.put(1, 0, 1), 0);
        due("of none", x.read(1, 5), PageLoom.NONE);
        dueCells(x, 2, 1, "1 10010 11011");
        due("put", x.put(1, 31, 1), 0);
        dueCells(x, 3, 1, "20020 21021 22022 31001");
        due("check", x.check(), 0);
    }

    // ---- SPLIT

    private static void splitFromFourOn() {
        PageLoom x = with(0, 0, 1, 2);
        putAll(x, 0, 3);
        due("no SPLIT of 3", x.records(), 4);
        due("the fourth one is in the same leaf", x.page(0, 2), 4);
        putAll(x, 0, 4);
        dueKinds(x, 5, SPLIT, CHANGE);
        dueCells(x, 0, 2, "1 202");
        dueCells(x, 1, 1, "0 1001");
        dueCells(x, 2, 1, "2002 3003 4004");
        putAll(x, 0, 5);
        dueKinds(x, 7, CHANGE);
        putAll(x, 0, 6);
        dueKinds(x, 8, SPLIT, CHANGE);
        dueCells(x, 0, 2, "1 202 403");
        dueCells(x, 2, 1, "2002 3003");
        dueCells(x, 3, 1, "4004 5005 6006");
    }

    private static void keyThatIsThere() {
        PageLoom x = with(0, 0, 1, 2, 3);
        due("put", x.put(0, 2, 5), 0);
        dueKinds(x, 5, CHANGE);
        PageLoom y = crowded(0, 1, 2, 3, 4);
        int records = y.records();
        due("put", y.put(3, 4, 44), 0);
        dueKinds(y, records + 1, CHANGE);
        due("still in one leaf", y.page(0, 2), 5);
    }

    private static void halfOfN() {
        PageLoom five = crowded(0, 1, 2, 3, 4);
        putAll(five, 3, 20);
        dueCells(five, 0, 2, "1 302");
        dueCells(five, 1, 1, "0 1001 2002");
        dueCells(five, 2, 1, "3003 4004 20020");
        PageLoom six = crowded(0, 1, 2, 3, 4, 5);
        putAll(six, 3, 20);
        dueCells(six, 1, 1, "0 1001 2002");
        dueCells(six, 2, 1, "3003 4004 5005 20020");
        PageLoom seven = crowded(0, 1, 2, 3, 4, 5, 6);
        putAll(seven, 3, 20);
        dueCells(seven, 0, 2, "1 402");
        dueCells(seven, 1, 1, "0 1001 2002 3003");
        dueCells(seven, 2, 1, "4004 5005 6006 20020");
        dueSound(seven);
    }

    private static void splitAsLongAsNeedBe() {
        PageLoom x = crowded(0, 1, 2, 3, 4, 5, 6, 7);
        int records = x.records();
        putAll(x, 3, 20);
        dueKinds(x, records + 1, SPLIT, SPLIT, CHANGE);
        dueCells(x, 0, 2, "1 402 603");
        dueCells(x, 1, 1, "0 1001 2002 3003");
        dueCells(x, 2, 1, "4004 5005");
        dueCells(x, 3, 1, "6006 7007 20020");
        dueSound(x);
        PageLoom y = crowded(0, 2, 4, 6, 8, 10, 12, 14);
        records = y.records();
        putAll(y, 3, 1);
        dueKinds(y, records + 1, SPLIT, SPLIT, CHANGE);
        // The page that comes stands right behind the one that was split.
        dueCells(y, 0, 2, "1 403 802");
        dueCells(y, 1, 1, "0 1001 2002");
        dueCells(y, 3, 1, "4004 6006");
        dueCells(y, 2, 1, "8008 10010 12012 14014");
        dueSound(y);
    }

    private static void allKeysInOneLeaf() {
        PageLoom x = allInOneLeaf();
        due("a leaf", x.page(0, 0), 1);
        due("entries", x.page(0, 2), 32);
        for (int key = 0; key < 32; key++) {
            due("entry", x.entry(0, key), 1001 * key);
        }
        due("no more", x.entry(0, 32), PageLoom.NONE);
        due("others are free", freePages(x), 23);
        dueSound(x);
        x.crash();
        due("recover", x.recover(), 0);
        due("entries", x.page(0, 2), 32);
        dueSound(x);
        x.open(0);
        int records = x.records();
        due("put of one that is there", x.put(0, 31, 999), 0);
        due("take", x.take(0, 31), 999);
        dueKinds(x, records + 1, CHANGE, CHANGE);
        due("put of 31 beside 31 others", x.put(0, 31, 31), 0);
        dueKinds(x, records + 3, SPLIT, SPLIT, SPLIT, CHANGE);
        dueCells(x, 0, 2, "1 1602 2403 2804");
        due("half of 31", x.page(1, 2), 16);
        due("half of 15", x.page(2, 2), 8);
        due("half of 7", x.page(3, 2), 4);
        dueCells(x, 4, 1, "28028 29029 30030 31031");
        dueSound(x);
    }

    private static void innerPagesWithFourChildren() {
        PageLoom x = with(0, upTo(12));
        dueCells(x, 6, 2, "3 604 807");
        putAll(x, 0, 12);
        dueKinds(x, 18, SPLIT, CHANGE);
        dueCells(x, 0, 2, "5 406");
        dueCells(x, 6, 2, "3 604 807 1008");
        putAll(x, 0, 13);
        // The root has 2 children, the inner page beneath it 4, and the leaf 4 entries.
        putAll(x, 0, 14);
        dueKinds(x, 20, CHANGE, SPLIT, SPLIT, CHANGE);
        dueCells(x, 0, 2, "5 406 809");
        dueCells(x, 5, 2, "1 202");
        dueCells(x, 6, 2, "3 604");
        dueCells(x, 9, 2, "7 1008 1210");
        dueCells(x, 8, 1, "10010 11011");
        dueCells(x, 10, 1, "12012 13013 14014");
        dueSound(x);
    }

    private static void theTopmostOfAllFullOnes() {
        PageLoom x = with(0, upTo(20));
        dueCells(x, 0, 2, "5 406 809 1212");
        dueCells(x, 12, 2, "10 1411 1613");
        int records = x.records();
        // The root has 4 children, but the page beneath it has 3: the leaf alone is split.
        putAll(x, 0, 20);
        dueKinds(x, records + 1, SPLIT, CHANGE);
        dueCells(x, 0, 2, "5 406 809 1212");
        dueCells(x, 12, 2, "10 1411 1613 1814");
        putAll(x, 0, 21);
        records = x.records();
        putAll(x, 0, 22);
        dueKinds(x, records + 1, SPLIT, SPLIT, SPLIT, CHANGE);
        dueCells(x, 0, 2, "15 816");
        dueCells(x, 15, 2, "5 406");
        dueCells(x, 16, 2, "9 1212 1617");
        dueCells(x, 12, 2, "10 1411");
        dueCells(x, 17, 2, "13 1814 2018");
        dueCells(x, 14, 1, "18018 19019");
        dueCells(x, 18, 1, "20020 21021 22022");
        dueSound(x);
    }

    private static void theLowestFreePage() {
        PageLoom x = committedWith(upTo(7));
        x.open(1);
        takeAll(x, 1, 0, 1);
        due("page 1 is free", x.page(1, 0), 0);
        putAll(x, 1, 7, 8);
        dueCells(x, 0, 2, "2 403 601");
        dueCells(x, 3, 1, "4004 5005");
        dueCells(x, 1, 1, "6006 7007 8008");
        dueSound(x);
    }

    private static void theTwoLowestFreePages() {
        PageLoom x = committedWith(upTo(22));
        x.open(1);
        takeAll(x, 1, 4, 5, 0, 1);
        due("page 1 is free", x.page(1, 0), 0);
        due("page 3 is free", x.page(3, 0), 0);
        dueCells(x, 0, 2, "5 406 809 1212");
        putAll(x, 1, 22);
        dueCells(x, 0, 2, "1 803");
        dueCells(x, 1, 2, "5 406");
        dueCells(x, 3, 2, "9 1212 1615");
        dueCells(x, 12, 2, "10 1411");
        dueCells(x, 15, 2, "13 1814 2016");
        dueCells(x, 16, 1, "20020 21021 22022");
        dueSound(x);
    }

    private static void rootWithFourChildren() {
        PageLoom x = with(0, upTo(10));
        dueCells(x, 0, 2, "1 202 403 604");
        due("records", x.records(), 13);
        putAll(x, 0, 10);
        dueKinds(x, 14, SPLIT, SPLIT, CHANGE);
        // The key 4 between both halves of the root is in neither.
        dueCells(x, 0, 2, "5 406");
        dueCells(x, 5, 2, "1 202");
        dueCells(x, 6, 2, "3 604 807");
        due("the SPLIT of the root changes it", x.page(0, 1), 14);
        due("and both halves", x.page(5, 1), 14);
        due("a leaf's SPLIT its parent", x.page(6, 1), 15);
        due("the leaf", x.page(4, 1), 15);
        due("three pages each", x.record(14, 4) + x.record(15, 4), 6);
    }

    // ---- no page left

    private static void noPageLeft() {
        PageLoom x = with(0, upTo(30));
        due("one is free", freePages(x), 1);
        int records = x.records();
        due("an inner page and a leaf are full", x.put(0, 30, 1), PageLoom.FULL);
        dueKinds(x, records + 1, SPLIT);
        due("none is free", freePages(x), 0);
        due("the key is locked", x.holder(30), 0);
        x.open(1);
        due("another one waits for it", x.read(1, 30), PageLoom.WAITS);
        due("none at all", x.put(0, 31, 1), PageLoom.FULL);
        due("nothing was split", x.records(), records + 1);
        due("locked, too", x.holder(31), 0);
        dueSound(x);
    }

    private static void roomWithoutPages() {
        PageLoom x = with(0, upTo(30));
        due("put", x.put(0, 30, 1), PageLoom.FULL);
        due("a key that is there", x.put(0, 29, 1), 0);
        due("take", x.take(0, 28), 28);
        due("a leaf with room", x.put(0, 30, 2), 0);
        due("full again", x.put(0, 28, 1), PageLoom.FULL);
        takeAll(x, 0, 0, 1);
        due("one page is free by GO", freePages(x), 1);
        int records = x.records();
        due("one is too few", x.put(0, 28, 1), PageLoom.FULL);
        dueKinds(x, records + 1, SPLIT);
        takeAll(x, 0, 2, 3);
        due("two, for a parent GOes, too", freePages(x), 2);
        due("put", x.put(0, 28, 1), 0);
        due("one page was needed", freePages(x), 1);
        due("check", x.check(), 0);
    }

    /** A run at whose end the last page that is free is what a leaf's SPLIT needs. */
    private static void theLastPage() {
        PageLoom x = new PageLoom();
        x.open(0);
        String run = "31 30 -29 31 27 -26 25 24 23 22 21 20 19 18 17 16 15 14 13 12 11 10 9 -8 -7 22 -5 1 3 7 11 2 -31 "
                + "16 -19 28 27 26 25 24 23 22 -7 11 19 18 10 0 15 22 15 12 -11 -10 9 8 7 6 5 -4 3 2 1 0 31 0 29 -19 6 26 "
                + "25 24 20 22 -21 20 -19 18 17 -16 15 14 13 12 11 10 9 8 7 6 13";
        for (String word : run.split(" ")) {
            int key = Math.abs(Integer.parseInt(word));
            due("answer", word.startsWith("-") ? x.take(0, key) >= -1 : x.put(0, key, key) == 0, true);
        }
        int last = 0;
        for (int page = 0; page < 24; page++) {
            last = x.page(page, 0) == 0 ? page : last;
        }
        due("one is free", freePages(x), 1);
        int records = x.records();
        due("put", x.put(0, 4, 4), 0);
        dueKinds(x, records + 1, SPLIT, CHANGE);
        due("none is free", freePages(x), 0);
        due("the last one is a leaf", x.page(last, 0), 1);
        due("check", x.check(), 0);
    }

    // ---- GO and TAKE OVER

    private static void leavesThatGo() {
        PageLoom x = committedWith(upTo(7));
        dueCells(x, 0, 2, "1 202 403");
        x.open(1);
        takeAll(x, 1, 0);
        dueKinds(x, 11, CHANGE);
        dueCells(x, 1, 1, "1001");
        takeAll(x, 1, 1);
        dueKinds(x, 12, CHANGE, GO);
        dueCells(x, 0, 2, "2 403");
        dueCells(x, 1, 0, "");
        PageLoom y = committedWith(upTo(7));
        y.open(1);
        takeAll(y, 1, 2, 3);
        dueCells(y, 0, 2, "1 403");
        PageLoom z = committedWith(upTo(7));
        z.open(1);
        takeAll(z, 1, 4, 5, 6);
        dueCells(z, 0, 2, "1 202");
        for (PageLoom each : new PageLoom[] {x, y, z}) {
            due("two pages", each.record(each.records(), 4), 2);
            dueSound(each);
        }
    }

    private static void theRootStays() {
        PageLoom x = with(0, 5);
        takeAll(x, 0, 5);
        dueKinds(x, 1, CHANGE, CHANGE);
        dueCells(x, 0, 1, "");
        due("put", x.put(0, 6, 6), 0);
        due("undo", x.undo(0), 3);
        dueKinds(x, 3, CHANGE, UNDO, UNDO, UNDO, END);
        dueCells(x, 0, 1, "");
        dueSound(x);
    }

    private static void oneTakeOver() {
        PageLoom x = committedWith(upTo(5));
        x.open(1);
        takeAll(x, 1, 2, 3);
        due("not yet", x.page(0, 0), 2);
        int records = x.records();
        takeAll(x, 1, 4);
        dueKinds(x, records + 1, CHANGE, GO, TAKE_OVER);
        due("two pages", x.record(records + 3, 4), 2);
        dueCells(x, 0, 1, "0 1001");
        due("others are free", freePages(x), 23);
        due("the root has its number", x.page(0, 1), records + 3);
        due("the page that is free, too", x.page(1, 1), records + 3);
        dueSound(x);
    }

    private static void takeOversInARow() {
        PageLoom x = committedWith(upTo(11));
        x.open(1);
        takeAll(x, 1, 2, 3, 4, 5, 6, 7);
        dueCells(x, 0, 2, "5 406");
        dueCells(x, 5, 2, "1");
        dueCells(x, 6, 2, "7");
        takeAll(x, 1, 0);
        int records = x.records();
        takeAll(x, 1, 1);
        dueKinds(x, records + 1, CHANGE, GO, GO, TAKE_OVER, TAKE_OVER);
        dueCells(x, 0, 1, "8008 9009 10010");
        due("others are free", freePages(x), 23);
        due("page 6 went at first", x.page(6, 1), records + 4);
        due("page 7 then", x.page(7, 1), records + 5);
        dueSound(x);
        due("undo", x.undo(1), 8);
        dueSound(x);
    }

    /** As long as children are left, a parent stays, be it one alone that is not beneath the root. */
    private static void parentsThatStay() {
        PageLoom x = committedWith(upTo(11));
        x.open(1);
        takeAll(x, 1, 0);
        int records = x.records();
        takeAll(x, 1, 1);
        dueKinds(x, records + 1, CHANGE, GO);
        dueCells(x, 0, 2, "5 406");
        dueCells(x, 5, 2, "2");
        dueSound(x);
    }

    /** The number of a SPLIT that a crash took is that of a GO now. */
    private static void numbersUsedAgain() {
        PageLoom x = with(0, upTo(5));
        takeAll(x, 0, 0);
        due("commit", x.commit(0), 8);
        writeAll(x);
        x.open(1);
        putAll(x, 1, 5, 6);
        dueKinds(x, 9, CHANGE, SPLIT, CHANGE);
        x.crash();
        due("recover", x.recover(), 0);
        due("records", x.records(), 8);
        x.open(1);
        takeAll(x, 1, 1);
        dueKinds(x, 9, CHANGE, GO, TAKE_OVER);
        due("two pages", x.record(10, 4), 2);
        dueCells(x, 0, 1, "2002 3003 4004");
        for (int page = 1; page < 4; page++) {
            dueCells(x, page, 0, "");
            due("a free page has nothing", x.page(page, 2), 0);
        }
        due("undo", x.undo(1), 1);
        dueSound(x);
    }

    private static void takingNeverSplits() {
        PageLoom x = crowded(0, 1, 2, 3, 4, 5, 6, 7);
        int records = x.records();
        takeAll(x, 3, 0, 7);
        due("take of none", x.take(3, 20), PageLoom.NONE);
        dueKinds(x, records + 1, CHANGE, CHANGE);
        due("entries", x.page(0, 2), 6);
    }

    private static void undoingUntilNothingIsLeft() {
        PageLoom x = with(1, upTo(11));
        int records = x.records();
        due("undo", x.undo(1), 11);
        dueKinds(x, records + 1,
                UNDO, UNDO, UNDO, GO,
                UNDO, UNDO, GO,
                UNDO, UNDO, GO, GO, TAKE_OVER,
                UNDO, UNDO, GO, TAKE_OVER,
                UNDO, UNDO, END);
        dueCells(x, 0, 1, "");
        due("others are free", freePages(x), 23);
        dueSound(x);
    }

    private static void undoingNeverSplits() {
        for (int many = 5; many <= 8; many++) {
            PageLoom x = crowded(fromTo(3, 3 + many));
            for (int record = 1; record <= x.records(); record++) {
                due("a SPLIT", x.record(record, 0) == SPLIT, false);
            }
            dueSound(x);
        }
    }

    private static void splitting() {
        edge(1, "At first the root is a leaf without entries, and all others are free.",
                TreeEdgesTest::pagesOfANewObject);
        edge(1, "Begins with an empty root, an empty log, an empty cache, on a disk that has the same.",
                TreeEdgesTest::allIsEmpty);
        edge(17, "100 times the key ahead of it (0 for the first one) and the child, together",
                TreeEdgesTest::keysAheadOfChildren);
        edge(17, "an entry of a leaf, 1000 times the key and the value, together",
                TreeEdgesTest::leastAndGreatestEntries);
        edge(3, "keys 0 to 31 with values 0 to 999, by rising keys", TreeEdgesTest::leastAndGreatestEntries);
        edge(3, "A leaf has entries, keys 0 to 31 with values 0 to 999, by rising keys", TreeEdgesTest::risingKeys);
        edge(5, "into its last child ahead of which there is no key greater than it",
                TreeEdgesTest::keysAtTheKeyBetween);
        edge(3, "its last child ahead of which there is no key greater than it", TreeEdgesTest::keysLessThanAll);
        edge(3, "SPLIT of a leaf with 4 entries or more", TreeEdgesTest::splitFromFourOn);
        edge(3, "if the key is new, and its leaf has 4 entries or more", TreeEdgesTest::keyThatIsThere);
        edge(3, "of n entries or children the first ones, half of n, rounded up, stay", TreeEdgesTest::halfOfN);
        edge(3, "as long as that is so", TreeEdgesTest::splitAsLongAsNeedBe);
        edge(9, "a leaf may have more than 4 entries by that", TreeEdgesTest::allKeysInOneLeaf);
        edge(3, "or an inner page with 4 children, whose parent has fewer than 4",
                TreeEdgesTest::innerPagesWithFourChildren);
        edge(3, "the topmost one is SPLIT from which on all are full", TreeEdgesTest::theTopmostOfAllFullOnes);
        edge(3, "the others come to the lowest free page", TreeEdgesTest::theLowestFreePage);
        edge(3, "gives both halves to the two lowest free pages, the first one to the lower one",
                TreeEdgesTest::theTwoLowestFreePages);
        edge(3, "of an inner page the key between both halves, which is in neither",
                TreeEdgesTest::rootWithFourChildren);
        edge(3, "FULL is told; what was split stays, and the key is locked", TreeEdgesTest::noPageLeft);
        edge(3, "If there are not enough free pages for that, FULL is told", TreeEdgesTest::roomWithoutPages);
        edge(3, "If there are not enough free pages for that", TreeEdgesTest::theLastPage);
    }

    private static void going() {
        edge(4, "nor the key ahead of it (behind it, if it was the first one)", TreeEdgesTest::leavesThatGo);
        edge(4, "if its leaf has no entries then, and is not the root, it GOes", TreeEdgesTest::theRootStays);
        edge(4, "the root that is inner with one child alone becomes what that is; that page is free",
                TreeEdgesTest::oneTakeOver);
        edge(4, "it is done, and the root is looked into again, and so on", TreeEdgesTest::takeOversInARow);
        edge(4, "then its parent, if that has no children and is not the root, and so on",
                TreeEdgesTest::parentsThatStay);
        edge(16, "0: 0 free, 1 a leaf, 2 inner; 1 the number of the record that changed it last; 2 how many entries or "
                + "children it has", TreeEdgesTest::numbersUsedAgain);
        edge(4, "To take a key away likewise, if it is there", TreeEdgesTest::takingNeverSplits);
        edge(9, "but with GO and TAKE OVER as told", TreeEdgesTest::undoingUntilNothingIsLeft);
        edge(9, "never with a SPLIT (a leaf may have more than 4 entries by that)",
                TreeEdgesTest::undoingNeverSplits);
    }

    public static void main(String[] args) {
        splitting();
        going();
        end();
    }
}
