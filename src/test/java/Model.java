import java.util.ArrayList;
import java.util.Arrays;
import java.util.List;
import java.util.Map;
import java.util.TreeMap;

/**
 * The document once more, told plainly and with all of the Java library, to be compared with PageLoom by ModelTest.
 * It differs on purpose in how it works: a crash is an exception, each write is done alone, pages are maps and lists,
 * what was committed is found from the beginning on, and the walk is a recursion.
 */
final class Model {
    static final int NONE = -1, WAITS = -2, VICTIM = -3, CRASHED = -4, FULL = -5;

    private static final class Crash extends RuntimeException {
        private static final long serialVersionUID = 1L;
    }

    /** Leaf entries by key, or children by the key ahead (0 ahead of the first). */
    private static final class P {
        int kind;
        int lsn;
        TreeMap<Integer, Integer> leaf = new TreeMap<>();
        List<Integer> kids = new ArrayList<>();
        List<Integer> keys = new ArrayList<>();

        P copy() {
            P p = new P();
            p.kind = kind;
            p.lsn = lsn;
            p.leaf.putAll(leaf);
            p.kids.addAll(kids);
            p.keys.addAll(keys);
            return p;
        }

        int size() {
            return kind == 1 ? leaf.size() : kids.size();
        }

        boolean full() {
            return size() >= 4;
        }

        void free() {
            kind = 0;
            leaf.clear();
            kids.clear();
            keys.clear();
        }

        void be(P other) {
            kind = other.kind;
            leaf = new TreeMap<>(other.leaf);
            kids = new ArrayList<>(other.kids);
            keys = new ArrayList<>(other.keys);
        }

        int kidFor(int key) {
            int i = 0;
            while (i < keys.size() && keys.get(i) <= key) {
                i++;
            }
            return kids.get(i);
        }
    }

    private static final class R {
        int kind, tx = NONE, key = NONE, undone = NONE, prev;
        Integer was, will;
        /** By page, what it is behind the record; of a CHANGE or UNDO nothing, for these tell it by key and value. */
        TreeMap<Integer, P> after = new TreeMap<>();
        int[] markLatest = new int[4];
        TreeMap<Integer, Integer> markFirst = new TreeMap<>();
    }

    private static final class F {
        int page = NONE;
        boolean used;
        int first;
        P p;
    }

    private final P[] disk = new P[24];
    private final long[][] half = new long[24][2];
    private P spare;
    private int spareOf = NONE;
    private final long[] spareHalf = new long[2];
    private long writing;
    private final List<R> log = new ArrayList<>();
    private int durable, writes, told;
    private final F[] frames = new F[4];
    private int hand;
    private boolean down;
    private final boolean[] open = new boolean[4];
    private final int[] latest = new int[4], made = new int[4], waits = new int[4];
    private final int[] holder = new int[32];
    private int[] pass = new int[4];

    Model() {
        for (int i = 0; i < 24; i++) {
            disk[i] = new P();
        }
        disk[0].kind = 1;
        Arrays.fill(waits, NONE);
        Arrays.fill(holder, NONE);
        emptyCache();
    }

    private void emptyCache() {
        for (int i = 0; i < 4; i++) {
            frames[i] = new F();
        }
        hand = 0;
    }

    // ---- writes

    private void one() {
        if (told > 0) {
            told--;
            if (told == 0) {
                throw new Crash();
            }
        }
        writes++;
    }

    private void force(int upTo) {
        while (durable < upTo) {
            one();
            durable++;
        }
    }

    private void writeFrame(F f) {
        force(f.p.lsn);
        writing++;
        one();
        spareHalf[0] = writing;
        spareOf = f.page;
        one();
        spareHalf[1] = writing;
        spare = f.p.copy();
        one();
        half[f.page][0] = writing;
        one();
        half[f.page][1] = writing;
        disk[f.page] = f.p.copy();
        f.first = 0;
    }

    private boolean torn(int page) {
        return half[page][0] != half[page][1];
    }

    private F frameWith(int page) {
        for (F f : frames) {
            if (f.page == page) {
                return f;
            }
        }
        return null;
    }

    private F use(int page) {
        F f = frameWith(page);
        if (f == null) {
            while (frames[hand].page != NONE && frames[hand].used) {
                frames[hand].used = false;
                hand = (hand + 1) % 4;
            }
            f = frames[hand];
            hand = (hand + 1) % 4;
            if (f.page != NONE && f.first > 0) {
                writeFrame(f);
            }
            f.page = page;
            f.p = disk[page].copy();
            f.first = 0;
        }
        f.used = true;
        return f;
    }

    private P peek(int page) {
        F f = frameWith(page);
        return f != null ? f.p : torn(page) ? null : disk[page];
    }

    // ---- records

    private R add(int kind, int tx) {
        R r = new R();
        r.kind = kind;
        r.tx = tx;
        log.add(r);
        if (tx != NONE) {
            r.prev = latest[tx];
            latest[tx] = log.size();
            made[tx]++;
        }
        return r;
    }

    private void apply(R r, int page, P p) {
        switch (r.kind) {
            case 0, 1 -> {
                if (r.will == null) {
                    p.leaf.remove(r.key);
                } else {
                    p.leaf.put(r.key, r.will);
                }
            }
            default -> p.be(r.after.get(page));
        }
    }

    private void change(R r) {
        int n = log.indexOf(r) + 1;
        for (int page : r.after.keySet()) {
            F f = use(page);
            apply(r, page, f.p);
            f.p.lsn = n;
            if (f.first == 0) {
                f.first = n;
            }
        }
    }

    private List<Integer> way(int key) {
        List<Integer> way = new ArrayList<>();
        int page = 0;
        while (true) {
            way.add(page);
            P p = use(page).p;
            if (p.kind != 2) {
                return way;
            }
            page = p.kidFor(key);
        }
    }

    private List<Integer> frees() {
        List<Integer> l = new ArrayList<>();
        for (int i = 0; i < 24; i++) {
            if (peek(i).kind == 0) {
                l.add(i);
            }
        }
        return l;
    }

    private int halves(P old, P left, P right) {
        int n = old.size();
        int stay = n - n / 2;
        left.kind = old.kind;
        right.kind = old.kind;
        if (old.kind == 1) {
            int i = 0;
            for (Map.Entry<Integer, Integer> e : old.leaf.entrySet()) {
                (i < stay ? left : right).leaf.put(e.getKey(), e.getValue());
                i++;
            }
            return right.leaf.firstKey();
        }
        left.kids.addAll(old.kids.subList(0, stay));
        left.keys.addAll(old.keys.subList(0, stay - 1));
        right.kids.addAll(old.kids.subList(stay, n));
        right.keys.addAll(old.keys.subList(stay, n - 1));
        return old.keys.get(stay - 1);
    }

    private void split(List<Integer> way, int at) {
        List<Integer> free = frees();
        int page = way.get(at);
        P left = new P();
        P right = new P();
        int key = halves(peek(page), left, right);
        R r = add(5, NONE);
        if (at == 0) {
            P root = new P();
            root.kind = 2;
            root.kids.add(free.get(0));
            root.kids.add(free.get(1));
            root.keys.add(key);
            r.after.put(0, root);
            r.after.put(free.get(0), left);
            r.after.put(free.get(1), right);
        } else {
            P parent = peek(way.get(at - 1)).copy();
            int i = parent.kids.indexOf(page);
            parent.kids.add(i + 1, free.get(0));
            parent.keys.add(i, key);
            r.after.put(way.get(at - 1), parent);
            r.after.put(page, left);
            r.after.put(free.get(0), right);
        }
        change(r);
    }

    private void go(int page, int parent) {
        R r = add(6, NONE);
        P free = new P();
        P p = peek(parent).copy();
        int i = p.kids.indexOf(page);
        p.kids.remove(i);
        if (!p.keys.isEmpty()) {
            p.keys.remove(i == 0 ? 0 : i - 1);
        }
        r.after.put(page, free);
        r.after.put(parent, p);
        change(r);
        behindGo();
    }

    private void behindGo() {
        while (true) {
            P root = use(0).p;
            if (root.kind != 2 || root.kids.size() != 1) {
                return;
            }
            int child = root.kids.get(0);
            P c = use(child).p;
            R r = add(7, NONE);
            r.after.put(0, c.copy());
            r.after.put(child, new P());
            change(r);
        }
    }

    private void setLeaf(R r, List<Integer> way, int key, Integer will) {
        int leaf = way.get(way.size() - 1);
        r.key = key;
        r.was = peek(leaf).leaf.get(key);
        r.will = will;
        r.after.put(leaf, null);
        change(r);
    }

    private void goUp(List<Integer> way) {
        for (int i = way.size() - 1; i > 0; i--) {
            P p = peek(way.get(i));
            if (p.size() > 0) {
                return;
            }
            go(way.get(i), way.get(i - 1));
        }
    }

    /** Undoes one record; answers the next one to be looked at. */
    private int undoOne(int n) {
        R r = log.get(n - 1);
        if (r.kind == 1) {
            return log.get(r.undone - 1).prev;
        }
        List<Integer> way = way(r.key);
        R u = add(1, r.tx);
        u.undone = n;
        setLeaf(u, way, r.key, r.was);
        goUp(way);
        return r.prev;
    }

    private int undoTo(int tx, int place) {
        int count = 0;
        int n = latest[tx];
        while (n > place) {
            if (log.get(n - 1).kind == 0) {
                count++;
            }
            n = undoOne(n);
        }
        return count;
    }

    private int undoAll(int tx) {
        int count = undoTo(tx, 0);
        add(3, tx);
        end(tx);
        return count;
    }

    private void end(int tx) {
        open[tx] = false;
        waits[tx] = NONE;
        latest[tx] = 0;
        for (int i = 0; i < 4; i++) {
            if (waits[i] == tx) {
                waits[i] = NONE;
            }
        }
        for (int k = 0; k < 32; k++) {
            if (holder[k] == tx) {
                holder[k] = NONE;
            }
        }
    }

    private int lock(int tx, int key) {
        waits[tx] = NONE;
        while (holder[key] != NONE && holder[key] != tx) {
            waits[tx] = holder[key];
            List<Integer> ring = new ArrayList<>();
            int t = tx;
            do {
                ring.add(t);
                t = waits[t];
            } while (t != NONE && t != tx);
            if (t == NONE) {
                return WAITS;
            }
            ring.sort((x, y) -> made[x] != made[y] ? Integer.compare(made[x], made[y]) : Integer.compare(y, x));
            int victim = ring.get(0);
            undoAll(victim);
            if (victim == tx) {
                return VICTIM;
            }
        }
        waits[tx] = NONE;
        holder[key] = tx;
        return 0;
    }

    private void fall() {
        down = true;
        emptyCache();
        while (log.size() > durable) {
            log.remove(log.size() - 1);
        }
        for (int t = 0; t < 4; t++) {
            end(t);
        }
    }

    /** Whether a crash is not recovered from; PageLoom tells it by what it throws alone. */
    boolean isDown() {
        return down;
    }

    boolean isOpen(int tx) {
        return in(tx, 0, 3) && open[tx];
    }

    private static void arg(boolean ok) {
        if (!ok) {
            throw new IllegalArgumentException();
        }
    }

    private static void state(boolean ok) {
        if (!ok) {
            throw new IllegalStateException();
        }
    }

    private static void index(boolean ok) {
        if (!ok) {
            throw new IndexOutOfBoundsException();
        }
    }

    private static boolean in(int x, int low, int high) {
        return x >= low && x <= high;
    }

    // ---- the face

    void open(int tx) {
        arg(in(tx, 0, 3));
        state(!down && !open[tx]);
        open[tx] = true;
        latest[tx] = 0;
        made[tx] = 0;
    }

    int put(int tx, int key, int value) {
        arg(in(tx, 0, 3) && in(key, 0, 31) && in(value, 0, 999));
        state(!down && open[tx] && log.size() < 200);
        try {
            int got = lock(tx, key);
            if (got != 0) {
                return got;
            }
            List<Integer> way = way(key);
            while (true) {
                P leaf = peek(way.get(way.size() - 1));
                if (leaf.leaf.containsKey(key) || !leaf.full()) {
                    break;
                }
                int top = way.size() - 1;
                while (top > 0 && peek(way.get(top - 1)).full()) {
                    top--;
                }
                if (frees().size() < (top == 0 ? 2 : 1)) {
                    return FULL;
                }
                split(way, top);
                way = way(key);
            }
            setLeaf(add(0, tx), way, key, value);
            return 0;
        } catch (Crash c) {
            fall();
            return CRASHED;
        }
    }

    int take(int tx, int key) {
        arg(in(tx, 0, 3) && in(key, 0, 31));
        state(!down && open[tx] && log.size() < 200);
        try {
            int got = lock(tx, key);
            if (got != 0) {
                return got;
            }
            List<Integer> way = way(key);
            Integer was = peek(way.get(way.size() - 1)).leaf.get(key);
            if (was == null) {
                return NONE;
            }
            setLeaf(add(0, tx), way, key, null);
            goUp(way);
            return was;
        } catch (Crash c) {
            fall();
            return CRASHED;
        }
    }

    int read(int tx, int key) {
        arg(in(tx, 0, 3) && in(key, 0, 31));
        state(!down && open[tx]);
        try {
            int got = lock(tx, key);
            if (got != 0) {
                return got;
            }
            List<Integer> way = way(key);
            return peek(way.get(way.size() - 1)).leaf.getOrDefault(key, NONE);
        } catch (Crash c) {
            fall();
            return CRASHED;
        }
    }

    int place(int tx) {
        arg(in(tx, 0, 3));
        state(!down && open[tx]);
        waits[tx] = NONE;
        return latest[tx];
    }

    int back(int tx, int place) {
        arg(in(tx, 0, 3) && in(place, 0, log.size()));
        state(!down && open[tx]);
        waits[tx] = NONE;
        try {
            return undoTo(tx, place);
        } catch (Crash c) {
            fall();
            return CRASHED;
        }
    }

    int commit(int tx) {
        arg(in(tx, 0, 3));
        state(!down && open[tx]);
        try {
            add(2, tx);
            int n = log.size();
            force(n);
            end(tx);
            return n;
        } catch (Crash c) {
            fall();
            return CRASHED;
        }
    }

    int undo(int tx) {
        arg(in(tx, 0, 3));
        state(!down && open[tx]);
        try {
            return undoAll(tx);
        } catch (Crash c) {
            fall();
            return CRASHED;
        }
    }

    int mark() {
        state(!down && log.size() < 200);
        try {
            R r = add(4, NONE);
            for (int t = 0; t < 4; t++) {
                r.markLatest[t] = open[t] ? latest[t] : 0;
            }
            for (F f : frames) {
                if (f.page != NONE && f.first > 0) {
                    r.markFirst.put(f.page, f.first);
                }
            }
            force(log.size());
            return log.size();
        } catch (Crash c) {
            fall();
            return CRASHED;
        }
    }

    int write(int page) {
        index(in(page, 0, 23));
        state(!down);
        F f = frameWith(page);
        if (f == null || f.first == 0) {
            return 0;
        }
        try {
            writeFrame(f);
            return 1;
        } catch (Crash c) {
            fall();
            return CRASHED;
        }
    }

    void crashAt(int write) {
        arg(in(write, 0, 999));
        told = write;
    }

    void crash() {
        if (!down) {
            fall();
        }
    }

    int recover() {
        state(down);
        pass = new int[4];
        try {
            if (spareOf != NONE && spareHalf[0] == spareHalf[1] && torn(spareOf)) {
                one();
                half[spareOf][0] = spareHalf[0];
                pass[3]++;
                one();
                half[spareOf][1] = spareHalf[1];
                disk[spareOf] = spare.copy();
                pass[3]++;
            }
            recoverPasses();
            for (int t = 0; t < 4; t++) {
                end(t);
            }
            down = false;
            return 0;
        } catch (Crash c) {
            fall();
            return CRASHED;
        }
    }

    private void recoverPasses() {
        int from = 1;
        for (int n = 1; n <= log.size(); n++) {
            if (log.get(n - 1).kind == 4) {
                from = n;
            }
        }
        TreeMap<Integer, Integer> first = new TreeMap<>();
        int[] todo = new int[4];
        for (int n = from; n <= log.size(); n++) {
            R r = log.get(n - 1);
            pass[0]++;
            if (r.kind == 4) {
                todo = r.markLatest.clone();
                first.putAll(r.markFirst);
            }
            if (r.tx != NONE) {
                todo[r.tx] = r.kind == 2 || r.kind == 3 ? 0 : n;
            }
            for (int page : r.after.keySet()) {
                first.putIfAbsent(page, n);
            }
        }
        int least = first.isEmpty() ? log.size() + 1 : first.values().stream().min(Integer::compare).get();
        for (int n = least; n <= log.size(); n++) {
            R r = log.get(n - 1);
            for (int page : r.after.keySet()) {
                if (first.containsKey(page) && first.get(page) <= n) {
                    F f = use(page);
                    if (f.p.lsn < n) {
                        apply(r, page, f.p);
                        f.p.lsn = n;
                        f.first = f.first == 0 ? n : f.first;
                        pass[1]++;
                    }
                }
            }
        }
        tidy();
        for (int t = 0; t < 4; t++) {
            latest[t] = todo[t];
        }
        while (true) {
            int t = 0;
            for (int i = 1; i < 4; i++) {
                t = todo[i] > todo[t] ? i : t;
            }
            if (todo[t] == 0) {
                return;
            }
            boolean counts = log.get(todo[t] - 1).kind == 0;
            todo[t] = undoOne(todo[t]);
            if (counts) {
                pass[2]++;
            }
            if (todo[t] == 0) {
                add(3, t);
            }
        }
    }

    private void tidy() {
        again:
        while (true) {
            P root = peek(0);
            if (root.kind == 2 && root.kids.size() == 1) {
                behindGo();
                continue;
            }
            for (int i = 1; i < 24; i++) {
                if (peek(i).kind != 0 && peek(i).size() == 0) {
                    int parent = 0;
                    while (peek(parent).kind != 2 || !peek(parent).kids.contains(i)) {
                        parent++;
                    }
                    go(i, parent);
                    continue again;
                }
            }
            return;
        }
    }

    int pass(int what) {
        arg(in(what, 0, 3));
        return pass[what];
    }

    int page(int page, int what) {
        index(in(page, 0, 23));
        arg(in(what, 0, 3));
        if (what == 3) {
            return frameWith(page) == null ? 0 : 1;
        }
        P p = peek(page);
        return p == null ? NONE : what == 0 ? p.kind : what == 1 ? p.lsn : p.size();
    }

    int entry(int page, int at) {
        index(in(page, 0, 23) && at >= 0);
        P p = peek(page);
        if (p == null || at >= p.size()) {
            return NONE;
        }
        if (p.kind == 1) {
            int key = new ArrayList<>(p.leaf.keySet()).get(at);
            return 1000 * key + p.leaf.get(key);
        }
        return p.kids.get(at) + (at == 0 ? 0 : 100 * p.keys.get(at - 1));
    }

    int frame(int frame, int what) {
        index(in(frame, 0, 3));
        arg(in(what, 0, 2));
        F f = frames[frame];
        return what == 0 ? f.page : what == 1 ? (f.used ? 1 : 0) : f.first;
    }

    int hand() {
        return hand;
    }

    int record(int record, int what) {
        index(in(record, 1, log.size()));
        arg(in(what, 0, 4));
        R r = log.get(record - 1);
        return new int[] {r.kind, r.tx, r.key, r.undone, r.after.size()}[what];
    }

    int records() {
        return log.size();
    }

    int durable() {
        return durable;
    }

    int writes() {
        return writes;
    }

    int holder(int key) {
        arg(in(key, 0, 31));
        return holder[key];
    }

    int waitsFor(int tx) {
        arg(in(tx, 0, 3));
        return waits[tx];
    }

    private TreeMap<Integer, Integer> committed() {
        TreeMap<Integer, Integer> map = new TreeMap<>();
        for (int n = 1; n <= durable; n++) {
            if (log.get(n - 1).kind == 2) {
                List<R> of = new ArrayList<>();
                for (int p = log.get(n - 1).prev; p > 0; p = log.get(p - 1).prev) {
                    of.add(0, log.get(p - 1));
                }
                for (R r : of) {
                    if (r.will == null) {
                        map.remove(r.key);
                    } else {
                        map.put(r.key, r.will);
                    }
                }
            }
        }
        return map;
    }

    int plain(int key) {
        arg(in(key, 0, 31));
        return committed().getOrDefault(key, NONE);
    }

    boolean agrees() {
        TreeMap<Integer, Integer> map = committed();
        for (int key = 0; key < 32; key++) {
            if (holder[key] == NONE) {
                int page = 0;
                int steps = 0;
                P p = peek(0);
                while (p != null && p.kind == 2 && !p.kids.isEmpty() && steps < 100) {
                    p = peek(p.kidFor(key));
                    steps++;
                }
                if (p == null || p.kind != 1 || !p.leaf.getOrDefault(key, NONE).equals(map.getOrDefault(key, NONE))) {
                    return false;
                }
            }
        }
        return true;
    }

    int check() {
        boolean[] faults = new boolean[8];
        faults[7] = true;
        boolean[] met = new boolean[24];
        TreeMap<Integer, Integer> depths = new TreeMap<>();
        walk(0, 0, met, depths, faults);
        faults[4] |= depths.size() > 1;
        for (int i = 0; i < 24; i++) {
            faults[6] |= !met[i] && peek(i) != null && peek(i).kind != 0;
        }
        int least = 1;
        while (!faults[least]) {
            least++;
        }
        return least == 7 ? 0 : least;
    }

    /** Answers all keys of the page and of what is beneath it: those of leaves and those between children. */
    private List<Integer> walk(int page, int depth, boolean[] met, TreeMap<Integer, Integer> depths,
            boolean[] faults) {
        List<Integer> keys = new ArrayList<>();
        P p = peek(page);
        if (met[page]) {
            faults[2] = true;
            return keys;
        }
        met[page] = true;
        if (p == null) {
            faults[1] = true;
        } else if (p.kind == 0) {
            faults[2] = true;
        } else if (p.kind == 1) {
            depths.put(depth, page);
            faults[5] |= p.leaf.isEmpty() && page != 0;
            keys.addAll(p.leaf.keySet());
        } else {
            faults[5] |= p.kids.isEmpty();
            keys.addAll(p.keys);
            for (int i = 0; i < p.kids.size(); i++) {
                List<Integer> beneath = walk(p.kids.get(i), depth + 1, met, depths, faults);
                for (int key : beneath) {
                    for (int between = 0; between < p.keys.size(); between++) {
                        boolean isBehind = i > between;
                        faults[3] |= isBehind ? key < p.keys.get(between) : key >= p.keys.get(between);
                    }
                }
                keys.addAll(beneath);
            }
        }
        return keys;
    }
}
