import java.math.BigInteger;
import java.util.ArrayDeque;
import java.util.ArrayList;
import java.util.Arrays;
import java.util.Deque;
import java.util.List;
import java.util.Set;
import java.util.TreeMap;
import java.util.Map;
import java.util.TreeSet;

/**
 * The document once more, word by word and without any thought for speed: each hint begins anew, each
 * play sets its flags, and placements are gone over one by one. MineDesk is compared with it.
 */
final class SlowDesk {
    private static final BigInteger PRIME = BigInteger.valueOf(1_000_000_007L);

    private static final class Verdict {
        final boolean mined;
        final TreeSet<Integer> cells = new TreeSet<>();
        boolean total;

        Verdict(boolean mined) {
            this.mined = mined;
        }
    }

    /** What one rule gave: the cells, and the verdict that all of them have. */
    private static final class Gift {
        final TreeSet<Integer> to = new TreeSet<>();
        final Verdict verdict;
        final int rule;

        Gift(int rule, boolean mined) {
            this.rule = rule;
            verdict = new Verdict(mined);
        }
    }

    private static final class Position {
        int w;
        int h;
        int shape;
        List<TreeSet<Integer>> near = new ArrayList<>();
        boolean[] mined;
        /** 'H', 'O' or 'B' of each cell. */
        char[] is;
        boolean[] flagged;

        Position(int w, int h, int shape) {
            this.w = w;
            this.h = h;
            this.shape = shape;
            mined = new boolean[w * h];
            is = new char[w * h];
            flagged = new boolean[w * h];
            Arrays.fill(is, 'H');
            for (int cell = 0; cell < w * h; cell++) {
                near.add(neighbours(cell));
            }
        }

        private TreeSet<Integer> neighbours(int cell) {
            int r = cell / w;
            int c = cell % w;
            int[][] steps;
            if (shape < 2) {
                steps = new int[][] {{-1, -1}, {-1, 0}, {-1, 1}, {0, -1}, {0, 1}, {1, -1}, {1, 0}, {1, 1}};
            } else if (r % 2 == 0) {
                steps = new int[][] {{0, -1}, {0, 1}, {-1, -1}, {-1, 0}, {1, -1}, {1, 0}};
            } else {
                steps = new int[][] {{0, -1}, {0, 1}, {-1, 0}, {-1, 1}, {1, 0}, {1, 1}};
            }
            TreeSet<Integer> found = new TreeSet<>();
            for (int[] step : steps) {
                int row = r + step[0];
                int column = c + step[1];
                if (shape % 2 == 1) {
                    row = Math.floorMod(row, h);
                    column = Math.floorMod(column, w);
                }
                if (row >= 0 && row < h && column >= 0 && column < w) {
                    found.add(row * w + column);
                }
            }
            found.remove(cell);
            return found;
        }

        int cells() {
            return w * h;
        }

        int number(int cell) {
            int n = 0;
            for (int other : near.get(cell)) {
                n += mined[other] ? 1 : 0;
            }
            return n;
        }

        int howMany(char state) {
            int n = 0;
            for (char one : is) {
                n += one == state ? 1 : 0;
            }
            return n;
        }

        int total() {
            int n = 0;
            for (boolean one : mined) {
                n += one ? 1 : 0;
            }
            return n;
        }

        void open(int cell) {
            if (is[cell] != 'H') {
                return;
            }
            if (mined[cell]) {
                is[cell] = 'B';
                return;
            }
            is[cell] = 'O';
            flagged[cell] = false;
            if (number(cell) == 0) {
                for (int other : near.get(cell)) {
                    open(other);
                }
            }
        }

        boolean solved() {
            for (int cell = 0; cell < cells(); cell++) {
                if (!mined[cell] && is[cell] == 'H') {
                    return false;
                }
            }
            return true;
        }

        boolean hasNear(int cell, char state) {
            for (int other : near.get(cell)) {
                if (is[other] == state) {
                    return true;
                }
            }
            return false;
        }

        void hideAll() {
            Arrays.fill(is, 'H');
            Arrays.fill(flagged, false);
        }

        /** The parts of the border, each with its cells. */
        List<TreeSet<Integer>> parts() {
            List<TreeSet<Integer>> parts = new ArrayList<>();
            Set<Integer> done = new TreeSet<>();
            for (int cell = 0; cell < cells(); cell++) {
                if (is[cell] == 'H' && hasNear(cell, 'O') && !done.contains(cell)) {
                    TreeSet<Integer> part = new TreeSet<>();
                    fillPart(cell, part);
                    done.addAll(part);
                    parts.add(part);
                }
            }
            return parts;
        }

        private void fillPart(int cell, TreeSet<Integer> part) {
            if (!part.add(cell)) {
                return;
            }
            for (int number : near.get(cell)) {
                if (is[number] == 'O') {
                    for (int other : near.get(number)) {
                        if (is[other] == 'H') {
                            fillPart(other, part);
                        }
                    }
                }
            }
        }

        boolean tooLong() {
            for (TreeSet<Integer> part : parts()) {
                if (part.size() > 12) {
                    return true;
                }
            }
            return false;
        }

        /** All subsets of some hidden cells with which the given open cells have their numbers. */
        List<Set<Integer>> fitting(TreeSet<Integer> among, TreeSet<Integer> numbers) {
            List<Integer> list = new ArrayList<>(among);
            List<Set<Integer>> found = new ArrayList<>();
            for (int bits = 0; bits < 1 << list.size(); bits++) {
                Set<Integer> set = new TreeSet<>();
                for (int i = 0; i < list.size(); i++) {
                    if ((bits >> i & 1) == 1) {
                        set.add(list.get(i));
                    }
                }
                if (fits(set, numbers)) {
                    found.add(set);
                }
            }
            return found;
        }

        private boolean fits(Set<Integer> set, TreeSet<Integer> numbers) {
            for (int number : numbers) {
                int n = 0;
                for (int other : near.get(number)) {
                    n += is[other] == 'B' || set.contains(other) ? 1 : 0;
                }
                if (n != number(number)) {
                    return false;
                }
            }
            return true;
        }

        TreeSet<Integer> inState(char state) {
            TreeSet<Integer> found = new TreeSet<>();
            for (int cell = 0; cell < cells(); cell++) {
                if (is[cell] == state) {
                    found.add(cell);
                }
            }
            return found;
        }

        /**
         * For each hidden cell how many placements have it, and under -1 how many there are. With few
         * hidden cells all sets of them are gone over, else those of each part.
         */
        Map<Integer, BigInteger> placements() {
            TreeSet<Integer> hidden = inState('H');
            int mines = total() - howMany('B');
            Map<Integer, BigInteger> counts = new TreeMap<>();
            if (hidden.size() <= 10) {
                counts.put(-1, BigInteger.ZERO);
                for (int cell : hidden) {
                    counts.put(cell, BigInteger.ZERO);
                }
                for (Set<Integer> set : fitting(hidden, inState('O'))) {
                    if (set.size() == mines) {
                        counts.merge(-1, BigInteger.ONE, BigInteger::add);
                        for (int cell : set) {
                            counts.merge(cell, BigInteger.ONE, BigInteger::add);
                        }
                    }
                }
                return counts;
            }
            List<TreeSet<Integer>> parts = parts();
            List<List<Set<Integer>>> sets = new ArrayList<>();
            TreeSet<Integer> loose = new TreeSet<>(hidden);
            for (TreeSet<Integer> part : parts) {
                TreeSet<Integer> numbers = new TreeSet<>();
                for (int cell : part) {
                    numbers.addAll(near.get(cell));
                }
                numbers.retainAll(inState('O'));
                sets.add(fitting(part, numbers));
                loose.removeAll(part);
            }
            counts.put(-1, count(sets, -1, -1, loose.size(), mines));
            for (int p = 0; p < parts.size(); p++) {
                for (int cell : parts.get(p)) {
                    counts.put(cell, count(sets, p, cell, loose.size(), mines));
                }
            }
            for (int cell : loose) {
                counts.put(cell, count(sets, -1, -1, loose.size() - 1, mines - 1));
            }
            return counts;
        }

        private static BigInteger count(List<List<Set<Integer>>> sets, int part, int cell, int loose, int mines) {
            BigInteger[] sums = new BigInteger[101];
            Arrays.fill(sums, BigInteger.ZERO);
            sums[0] = BigInteger.ONE;
            for (int p = 0; p < sets.size(); p++) {
                BigInteger[] next = new BigInteger[101];
                Arrays.fill(next, BigInteger.ZERO);
                int[] sizes = new int[13];
                for (Set<Integer> set : sets.get(p)) {
                    if (p != part || set.contains(cell)) {
                        sizes[set.size()]++;
                    }
                }
                for (int size = 0; size <= 12; size++) {
                    for (int sum = 0; sum + size <= 100 && sizes[size] > 0; sum++) {
                        next[sum + size] = next[sum + size].add(sums[sum].multiply(BigInteger.valueOf(sizes[size])));
                    }
                }
                sums = next;
            }
            BigInteger count = BigInteger.ZERO;
            for (int sum = 0; sum <= mines; sum++) {
                count = count.add(sums[sum].multiply(choose(loose, mines - sum)));
            }
            return count;
        }

        private static BigInteger choose(int n, int k) {
            if (k < 0 || k > n) {
                return BigInteger.ZERO;
            }
            BigInteger ways = BigInteger.ONE;
            for (int i = 1; i <= k; i++) {
                ways = ways.multiply(BigInteger.valueOf(n - k + i)).divide(BigInteger.valueOf(i));
            }
            return ways;
        }
    }

    private Position at = new Position(1, 1, 0);
    private final Deque<Object[]> moves = new ArrayDeque<>();
    private int mended;
    private int kind;
    private TreeSet<Integer> reasons = new TreeSet<>();
    private boolean total;
    private TreeSet<Integer> told = new TreeSet<>();
    private boolean toldTotal;

    private String forcedFor = "";
    private Map<Integer, BigInteger> forcedCounts;

    private static boolean wrongSize(int w, int h, int shape) {
        return w < 1 || w > 10 || h < 1 || h > 10 || shape < 0 || shape > 3 || shape == 3 && h % 2 == 1;
    }

    private boolean isCell(int cell) {
        return cell >= 0 && cell < at.cells();
    }

    private void forget() {
        moves.clear();
        kind = 0;
        reasons = new TreeSet<>();
        total = false;
        told = new TreeSet<>();
        toldTotal = false;
    }

    int blank(int w, int h, int shape) {
        if (wrongSize(w, h, shape)) {
            return -1;
        }
        at = new Position(w, h, shape);
        forget();
        return w * h;
    }

    int edit(int cell, boolean mined) {
        if (!isCell(cell)) {
            return -1;
        }
        if (at.howMany('H') != at.cells() || at.mined[cell] == mined) {
            return -2;
        }
        at.mined[cell] = mined;
        return at.total();
    }

    int make(int w, int h, int mines, int shape, int seed, int grade) {
        if (wrongSize(w, h, shape) || grade < 1 || grade > 3) {
            return -1;
        }
        Position p = new Position(w, h, shape);
        int first = h / 2 * w + w / 2;
        List<Integer> can = new ArrayList<>();
        for (int cell = 0; cell < w * h; cell++) {
            if (cell != first && !p.near.get(first).contains(cell)) {
                can.add(cell);
            }
        }
        if (mines < 0 || mines > can.size()) {
            return -1;
        }
        long x = seed & 0x7fffffffL;
        for (int i = 0; i < mines; i++) {
            x = (1103515245L * x + 12345L) % (1L << 31);
            p.mined[can.remove((int) (x / 65536 % can.size()))] = true;
        }
        mended = 0;
        while (true) {
            p.hideAll();
            p.open(first);
            while (!p.solved()) {
                Gift gift = findHint(p, grade);
                if (gift == null) {
                    break;
                }
                int cell = gift.to.first();
                if (gift.verdict.mined) {
                    p.flagged[cell] = true;
                } else {
                    p.open(cell);
                }
            }
            if (p.solved()) {
                p.hideAll();
                at = p;
                forget();
                return 1;
            }
            int from = -1;
            int to = -1;
            for (int cell = w * h - 1; cell >= 0; cell--) {
                if (p.is[cell] == 'H' && p.mined[cell] && p.hasNear(cell, 'O')) {
                    from = cell;
                }
                if (p.is[cell] == 'H' && !p.mined[cell] && !p.hasNear(cell, 'O')) {
                    to = cell;
                }
            }
            if (mended == 40 || from < 0 || to < 0) {
                return 0;
            }
            p.mined[from] = false;
            p.mined[to] = true;
            mended++;
        }
    }

    int mended() {
        return mended;
    }

    int count(int what) {
        int flags = 0;
        for (boolean one : at.flagged) {
            flags += one ? 1 : 0;
        }
        int[] all = {at.w, at.h, at.shape, at.total(), at.howMany('O'), flags, at.howMany('B'), moves.size()};
        return what < 0 || what > 7 ? -1 : all[what];
    }

    int neighbour(int cell, int i) {
        if (!isCell(cell) || i < 0 || i >= at.near.get(cell).size()) {
            return -1;
        }
        return new ArrayList<>(at.near.get(cell)).get(i);
    }

    boolean mined(int cell) {
        return isCell(cell) && at.mined[cell];
    }

    private void keep() {
        moves.push(new Object[] {at.is.clone(), at.flagged.clone()});
    }

    int open(int cell) {
        if (!isCell(cell)) {
            return -1;
        }
        if (at.is[cell] != 'H' || at.flagged[cell]) {
            return -2;
        }
        if (moves.size() == 200) {
            return -4;
        }
        keep();
        at.open(cell);
        return at.mined[cell] ? -5 : at.number(cell);
    }

    int flag(int cell) {
        if (!isCell(cell)) {
            return -1;
        }
        if (at.is[cell] != 'H') {
            return -2;
        }
        if (moves.size() == 200) {
            return -4;
        }
        keep();
        at.flagged[cell] = !at.flagged[cell];
        return at.flagged[cell] ? 1 : 0;
    }

    int chord(int cell) {
        if (!isCell(cell)) {
            return -1;
        }
        if (at.is[cell] != 'O') {
            return -2;
        }
        int marked = 0;
        List<Integer> todo = new ArrayList<>();
        for (int other : at.near.get(cell)) {
            marked += at.flagged[other] || at.is[other] == 'B' ? 1 : 0;
            if (at.is[other] == 'H' && !at.flagged[other]) {
                todo.add(other);
            }
        }
        if (marked != at.number(cell)) {
            return -2;
        }
        if (moves.size() == 200) {
            return -4;
        }
        keep();
        int before = at.howMany('H');
        for (int other : todo) {
            at.open(other);
        }
        return before - at.howMany('H');
    }

    int undo() {
        if (moves.isEmpty()) {
            return -2;
        }
        Object[] move = moves.pop();
        at.is = (char[]) move[0];
        at.flagged = (boolean[]) move[1];
        return 1;
    }

    int shown(int cell) {
        if (!isCell(cell)) {
            return -1;
        }
        if (at.is[cell] == 'O') {
            return at.number(cell);
        }
        return at.is[cell] == 'B' ? 11 : at.flagged[cell] ? 10 : 9;
    }

    boolean solved() {
        return at.solved();
    }

    int clicks() {
        TreeSet<Integer> heaped = new TreeSet<>();
        int clicks = 0;
        for (int cell = 0; cell < at.cells(); cell++) {
            if (at.is[cell] == 'H' && !at.mined[cell] && at.number(cell) == 0 && !heaped.contains(cell)) {
                clicks++;
                Deque<Integer> todo = new ArrayDeque<>(List.of(cell));
                while (!todo.isEmpty()) {
                    int one = todo.pop();
                    if (at.is[one] == 'H' && !at.mined[one] && at.number(one) == 0 && heaped.add(one)) {
                        todo.addAll(at.near.get(one));
                    }
                }
            }
        }
        for (int cell = 0; cell < at.cells(); cell++) {
            TreeSet<Integer> touched = new TreeSet<>(at.near.get(cell));
            touched.retainAll(heaped);
            if (at.is[cell] == 'H' && !at.mined[cell] && !heaped.contains(cell) && touched.isEmpty()) {
                clicks++;
            }
        }
        return clicks;
    }

    int hint(int grade) {
        if (grade < 1 || grade > 3) {
            return -1;
        }
        Gift gift = findHint(at, grade);
        kind = gift == null ? 0 : gift.rule;
        reasons = gift == null ? new TreeSet<>() : gift.verdict.cells;
        total = gift != null && gift.verdict.total;
        return gift == null ? 0 : 2 * gift.to.first() + (gift.verdict.mined ? 1 : 0) + 1;
    }

    /** The hint, alone in a gift; null if there is none. */
    private Gift findHint(Position p, int grade) {
        Verdict[] verdicts = new Verdict[p.cells()];
        while (true) {
            Gift gift = firstGift(p, verdicts, grade);
            if (gift == null) {
                return null;
            }
            for (int cell : gift.to) {
                if (!gift.verdict.mined || !p.flagged[cell]) {
                    gift.to.removeIf(other -> other != cell);
                    return gift;
                }
            }
            for (int cell : gift.to) {
                verdicts[cell] = gift.verdict;
            }
        }
    }

    private Gift firstGift(Position p, Verdict[] verdicts, int grade) {
        for (int a : p.inState('O')) {
            Gift gift = ruleOne(p, verdicts, a);
            if (gift != null) {
                return gift;
            }
        }
        if (grade >= 2) {
            for (int a : p.inState('O')) {
                for (int b : p.inState('O')) {
                    Gift gift = ruleTwo(p, verdicts, a, b);
                    if (gift != null) {
                        return gift;
                    }
                }
            }
        }
        return grade == 3 && !p.tooLong() ? ruleThree(p, verdicts) : null;
    }

    private static TreeSet<Integer> unknown(Position p, Verdict[] verdicts, int a) {
        TreeSet<Integer> found = new TreeSet<>();
        for (int cell : p.near.get(a)) {
            if (p.is[cell] == 'H' && verdicts[cell] == null) {
                found.add(cell);
            }
        }
        return found;
    }

    private static int due(Position p, Verdict[] verdicts, int a) {
        int due = p.number(a);
        for (int cell : p.near.get(a)) {
            if (p.is[cell] == 'B' || verdicts[cell] != null && verdicts[cell].mined) {
                due--;
            }
        }
        return due;
    }

    private static void addReasons(Position p, Verdict[] verdicts, Verdict to, int a) {
        to.cells.add(a);
        for (int cell : p.near.get(a)) {
            if (verdicts[cell] != null) {
                to.cells.addAll(verdicts[cell].cells);
                to.total |= verdicts[cell].total;
            }
        }
    }

    private static Gift ruleOne(Position p, Verdict[] verdicts, int a) {
        TreeSet<Integer> u = unknown(p, verdicts, a);
        int d = due(p, verdicts, a);
        if (u.isEmpty() || d != 0 && d != u.size()) {
            return null;
        }
        Gift gift = new Gift(1, d != 0);
        gift.to.addAll(u);
        addReasons(p, verdicts, gift.verdict, a);
        return gift;
    }

    private static Gift ruleTwo(Position p, Verdict[] verdicts, int a, int b) {
        TreeSet<Integer> ua = unknown(p, verdicts, a);
        TreeSet<Integer> ub = unknown(p, verdicts, b);
        if (ua.isEmpty() || !ub.containsAll(ua) || ub.size() == ua.size()) {
            return null;
        }
        ub.removeAll(ua);
        int d = due(p, verdicts, b) - due(p, verdicts, a);
        if (d != 0 && d != ub.size()) {
            return null;
        }
        Gift gift = new Gift(2, d != 0);
        gift.to.addAll(ub);
        addReasons(p, verdicts, gift.verdict, a);
        addReasons(p, verdicts, gift.verdict, b);
        return gift;
    }

    private Gift ruleThree(Position p, Verdict[] verdicts) {
        String key = p.w + " " + p.h + " " + p.shape + new String(p.is) + Arrays.toString(p.mined);
        if (!key.equals(forcedFor)) {
            forcedFor = key;
            forcedCounts = p.placements();
        }
        Map<Integer, BigInteger> counts = forcedCounts;
        for (int cell : p.inState('H')) {
            boolean always = counts.get(cell).equals(counts.get(-1));
            if (verdicts[cell] == null && (always || counts.get(cell).signum() == 0)) {
                Gift gift = new Gift(3, always);
                gift.to.add(cell);
                gift.verdict.total = true;
                for (int number : p.inState('O')) {
                    if (p.hasNear(number, 'H')) {
                        gift.verdict.cells.add(number);
                    }
                }
                return gift;
            }
        }
        return null;
    }

    int kind() {
        return kind;
    }

    int reason(int i) {
        return i < 0 || i >= reasons.size() ? -1 : new ArrayList<>(reasons).get(i);
    }

    boolean total() {
        return total;
    }

    int take() {
        told = new TreeSet<>(reasons);
        toldTotal = total;
        return told.size();
    }

    int tell(int cell, boolean on) {
        if (!isCell(cell)) {
            return -1;
        }
        return (on ? told.add(cell) : told.remove(cell)) ? 1 : 0;
    }

    int name(boolean on) {
        boolean changes = toldTotal != on;
        toldTotal = on;
        return changes ? 1 : 0;
    }

    int check(int cell, int verdict) {
        if (!isCell(cell) || verdict != 0 && verdict != 1) {
            return -1;
        }
        if (at.is[cell] != 'H') {
            return -2;
        }
        TreeSet<Integer> among = new TreeSet<>(List.of(cell));
        TreeSet<Integer> numbers = new TreeSet<>(told);
        numbers.retainAll(at.inState('O'));
        for (int number : numbers) {
            for (int other : at.near.get(number)) {
                if (at.is[other] == 'H') {
                    among.add(other);
                }
            }
        }
        if (among.size() > 14) {
            return -3;
        }
        int loose = at.howMany('H') - among.size();
        int mines = at.total() - at.howMany('B');
        for (Set<Integer> set : at.fitting(among, numbers)) {
            boolean counted = set.size() <= mines && mines <= set.size() + loose;
            if (set.contains(cell) == (verdict == 0) && (!toldTotal || counted)) {
                return 0;
            }
        }
        return 1;
    }

    int ways() {
        return at.tooLong() ? -3 : at.placements().get(-1).mod(PRIME).intValueExact();
    }

    int with(int cell) {
        if (!isCell(cell)) {
            return -1;
        }
        if (at.is[cell] != 'H') {
            return -2;
        }
        return at.tooLong() ? -3 : at.placements().get(cell).mod(PRIME).intValueExact();
    }
}
