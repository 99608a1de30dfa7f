import java.util.ArrayList;
import java.util.Arrays;
import java.util.List;
import java.util.NoSuchElementException;

/**
 * The document's words done in the plainest way, slow and wasteful, to compare the class with:
 * every state is a new one made from the fund and the acts, and every "least" or "greatest" is tried out.
 */
final class NaiveLedger {
    static final int NONE = -1;

    /** One ladder. */
    static final class Rung {
        long capital, pref, given, taken;

        Rung copy() {
            Rung r = new Rung();
            r.capital = capital;
            r.pref = pref;
            r.given = given;
            r.taken = taken;
            return r;
        }
    }

    static final class Told {
        int[] terms = new int[7];
        List<Integer> committed = new ArrayList<>();
        int deals;
        boolean[][] excused = new boolean[6][6]; // [deal][investor]

        Told copy() {
            Told t = new Told();
            t.terms = terms.clone();
            t.committed = new ArrayList<>(committed);
            t.deals = deals;
            for (int d = 0; d < 6; d++) {
                t.excused[d] = excused[d].clone();
            }
            return t;
        }
    }

    static final class Act {
        int kind, who = NONE, sum, other = NONE;

        Act(int kind, int who, int sum, int other) {
            this.kind = kind;
            this.who = who;
            this.sum = sum;
            this.other = other;
        }
    }

    static final class World {
        final Told told;
        final int n, deals;
        final int[] t;
        final long[] committed, uncalled, paid, got;
        final boolean[] failed;
        final long[] cost, brought, mark;
        final boolean[] closed;
        final Rung whole;
        final Rung burden;
        final Rung[] own;
        long taken, out, escrow, gave;
        int quarter;
        boolean ended;
        final long[][] flow;
        long cameI, cameM;

        World(Told told) {
            this.told = told;
            n = told.committed.size();
            deals = told.deals;
            t = told.terms.clone();
            committed = new long[n];
            for (int i = 0; i < n; i++) {
                committed[i] = told.committed.get(i);
            }
            uncalled = committed.clone();
            paid = new long[n];
            got = new long[n];
            failed = new boolean[n];
            cost = new long[deals];
            brought = new long[deals];
            mark = new long[deals];
            closed = new boolean[deals];
            whole = new Rung();
            burden = new Rung();
            own = new Rung[deals];
            for (int d = 0; d < deals; d++) {
                own[d] = new Rung();
            }
            flow = new long[n][400];
        }

        World(World w) {
            told = w.told;
            n = w.n;
            deals = w.deals;
            t = w.t.clone();
            committed = w.committed.clone();
            uncalled = w.uncalled.clone();
            paid = w.paid.clone();
            got = w.got.clone();
            failed = w.failed.clone();
            cost = w.cost.clone();
            brought = w.brought.clone();
            mark = w.mark.clone();
            closed = w.closed.clone();
            whole = w.whole.copy();
            burden = w.burden.copy();
            own = new Rung[deals];
            for (int d = 0; d < deals; d++) {
                own[d] = w.own[d].copy();
            }
            taken = w.taken;
            out = w.out;
            escrow = w.escrow;
            gave = w.gave;
            quarter = w.quarter;
            ended = w.ended;
            flow = new long[n][];
            for (int i = 0; i < n; i++) {
                flow[i] = w.flow[i].clone();
            }
        }

        boolean dealwise() {
            return t[3] == 1;
        }

        long weight(int i, int deal) {
            if (deal != NONE && told.excused[deal][i]) {
                return 0;
            }
            return failed[i] ? committed[i] / 2 + committed[i] % 2 : committed[i];
        }

        static long[] shared(long sum, long[] weights) {
            long[] parts = new long[weights.length];
            long all = Arrays.stream(weights).sum();
            if (all == 0) {
                return parts;
            }
            List<Integer> byRemainder = new ArrayList<>();
            long handed = 0;
            for (int i = 0; i < weights.length; i++) {
                parts[i] = Math.floorDiv(sum * weights[i], all);
                handed += parts[i];
                byRemainder.add(i);
            }
            byRemainder.sort((a, b) -> {
                int c = Long.compare(sum * weights[b] % all, sum * weights[a] % all);
                return c != 0 ? c : Integer.compare(a, b);
            });
            for (int c = 0; c < sum - handed; c++) {
                parts[byRemainder.get(c)]++;
            }
            return parts;
        }

        long[] weights(int deal) {
            long[] w = new long[n];
            for (int i = 0; i < n; i++) {
                w[i] = weight(i, deal);
            }
            return w;
        }

        long[] callables(int deal) {
            long[] w = new long[n];
            for (int i = 0; i < n; i++) {
                w[i] = deal != NONE && told.excused[deal][i] ? 0 : uncalled[i];
            }
            return w;
        }

        void pay(long[] parts) {
            for (int i = 0; i < n; i++) {
                uncalled[i] -= parts[i];
                paid[i] += parts[i];
                flow[i][quarter] -= parts[i];
            }
        }

        void give(long sum, int deal) {
            long[] parts = shared(sum, weights(deal));
            for (int i = 0; i < n; i++) {
                got[i] += parts[i];
                flow[i][quarter] += parts[i];
            }
        }

        /** Fills: {step 0, step 1, step 2, step 3, manager, investors}. */
        long[] fills(Rung r, Rung with, long sum) {
            long[] a = new long[6];
            long left = sum;
            Rung[] both = with == null ? new Rung[] {r} : new Rung[] {r, with};
            for (Rung x : both) {
                long part = Math.min(x.capital, left);
                x.capital -= part;
                left -= part;
                a[0] += part;
            }
            for (Rung x : both) {
                long part = Math.min(x.pref, left);
                x.pref -= part;
                left -= part;
                a[1] += part;
                r.given += part;
            }
            if (t[1] > t[2]) {
                long y = left;
                for (long tryY = 0; tryY <= left; tryY++) {
                    long m = t[1] * tryY / 100;
                    long newTaken = r.taken + m;
                    long newGiven = r.given + tryY - m;
                    if (newTaken * 100 >= t[2] * (newGiven + newTaken)) {
                        y = tryY;
                        break;
                    }
                }
                long m = t[1] * y / 100;
                r.taken += m;
                r.given += y - m;
                left -= y;
                a[2] = y;
                a[4] += m;
            }
            long m = left * t[2] / 100;
            r.taken += m;
            r.given += left - m;
            a[3] = left;
            a[4] += m;
            a[5] = sum - a[4];
            return a;
        }

        void sell(int d, long sum, boolean last) {
            brought[d] += sum;
            long[] a;
            if (dealwise()) {
                a = fills(own[d], burden, sum);
                fills(whole, null, sum);
            } else {
                a = fills(whole, null, sum);
            }
            give(a[5], d);
            taken += a[4];
            long held = a[4] * t[5] / 100;
            escrow += held;
            out += a[4] - held;
            cameI = a[5];
            cameM = a[4];
            if (last) {
                closed[d] = true;
                burden.capital += own[d].capital;
                burden.pref += own[d].pref;
                own[d].capital = 0;
                own[d].pref = 0;
            }
        }

        List<Rung> ladders() {
            List<Rung> all = new ArrayList<>(List.of(own));
            all.add(whole);
            all.add(burden);
            return all;
        }

        void quarterPasses() {
            for (Rung r : ladders()) {
                r.pref = Math.min(1000000000L, r.pref + (r.capital + r.pref) * t[0] / 10000);
            }
            long fee = Math.min(t[6] * Arrays.stream(committed).sum() / 10000, Arrays.stream(uncalled).sum());
            pay(shared(fee, uncalled.clone()));
            whole.capital += fee;
            if (dealwise()) {
                burden.capital += fee;
            }
            quarter++;
        }

        long[] clawParts() {
            long due = Math.max(0, taken - whole.taken);
            long a = Math.min(escrow, due);
            long b = Math.min(due - a, out - out * t[4] / 100);
            return new long[] {a, b};
        }

        long claw() {
            return ended ? 0 : clawParts()[0] + clawParts()[1];
        }

        boolean can(Act a) {
            if (n == 0 || ended) {
                return false;
            }
            switch (a.kind) {
                case 0:
                    return !closed[a.who] && a.sum <= Arrays.stream(callables(a.who)).sum();
                case 1:
                case 2:
                    return !closed[a.who];
                case 4:
                    return quarter + a.sum <= 200;
                case 5:
                    return !failed[a.who];
                case 6:
                    for (boolean c : closed) {
                        if (!c) {
                            return false;
                        }
                    }
                    return true;
                case 7:
                    return a.sum < committed[a.who] && committed[a.other] + a.sum <= 9999
                            && !failed[a.who] && !failed[a.other];
                default:
                    return true;
            }
        }

        long doIt(Act a) {
            cameI = 0;
            cameM = 0;
            switch (a.kind) {
                case 0:
                    pay(shared(a.sum, callables(a.who)));
                    cost[a.who] += a.sum;
                    whole.capital += a.sum;
                    if (dealwise()) {
                        own[a.who].capital += a.sum;
                    }
                    return Arrays.stream(uncalled).sum();
                case 1:
                case 2:
                    sell(a.who, a.sum, a.kind == 2);
                    return cameM;
                case 3:
                    long was = mark[a.who];
                    mark[a.who] = a.sum;
                    return was;
                case 4:
                    for (int q = 0; q < a.sum; q++) {
                        quarterPasses();
                    }
                    return quarter;
                case 5:
                    failed[a.who] = true;
                    uncalled[a.who] = 0;
                    return weight(a.who, NONE);
                case 6:
                    long[] c = clawParts();
                    gave = c[0] + c[1];
                    escrow -= c[0];
                    out -= c[1];
                    give(gave, NONE);
                    out += escrow;
                    escrow = 0;
                    ended = true;
                    cameI = gave;
                    return gave;
                default:
                    long over = uncalled[a.who] * a.sum / committed[a.who];
                    uncalled[a.who] -= over;
                    uncalled[a.other] += over;
                    committed[a.who] -= a.sum;
                    committed[a.other] += a.sum;
                    return over;
            }
        }

        void sellOut() {
            for (int d = 0; d < deals; d++) {
                if (!closed[d]) {
                    sell(d, mark[d], true);
                }
            }
        }

        long allGot() {
            return Arrays.stream(got).sum();
        }
    }

    byte[] tape = new byte[0];
    int fault = NONE;
    Told told = new Told();
    List<Act> journal = new ArrayList<>();
    World now = new World(told);
    Told keptTold;
    List<Act> keptJournal;

    // ---- reading

    static final class Wrong extends Exception {
        private static final long serialVersionUID = 1L;
        final int at;

        Wrong(int at) {
            this.at = at;
        }
    }

    /** The text cut into things: {begin, end}. */
    static List<int[]> things(byte[] b) {
        List<int[]> all = new ArrayList<>();
        int i = 0;
        while (i < b.length) {
            if (b[i] == 32) {
                i++;
                continue;
            }
            int j = i + 1;
            if (b[i] >= 'a' && b[i] <= 'z') {
                while (j < b.length && b[j] >= 'a' && b[j] <= 'z') {
                    j++;
                }
            } else if (b[i] >= '0' && b[i] <= '9') {
                while (j < b.length && b[j] >= '0' && b[j] <= '9') {
                    j++;
                }
            }
            all.add(new int[] {i, j});
            i = j;
        }
        return all;
    }

    final class Reader {
        final byte[] b;
        final List<int[]> things;
        int at;

        Reader(byte[] b) {
            this.b = b;
            things = things(b);
        }

        int begin() {
            return at < things.size() ? things.get(at)[0] : b.length;
        }

        String look() {
            if (at >= things.size()) {
                return "";
            }
            int[] t = things.get(at);
            return new String(b, t[0], t[1] - t[0], java.nio.charset.StandardCharsets.ISO_8859_1);
        }

        boolean is(String s) {
            if (look().equals(s)) {
                at++;
                return true;
            }
            return false;
        }

        int number(int low, int high) throws Wrong {
            String s = look();
            if (!s.matches("[0-9]{1,4}") || Integer.parseInt(s) < low || Integer.parseInt(s) > high) {
                throw new Wrong(begin());
            }
            at++;
            return Integer.parseInt(s);
        }

        boolean done() {
            return at >= things.size();
        }
    }

    static final String[] TERM = {"hurdle", "catch", "carry", "dealwise", "tax", "held", "fee"};
    static final int[] TOP = {999, 100, 50, 1, 99, 100, 200};

    Told readFund(byte[] b) throws Wrong {
        Reader r = new Reader(b);
        Told t = new Told();
        if (!r.is("fund")) {
            throw new Wrong(r.begin());
        }
        for (int k = 0; k < 7; k++) {
            if (r.is(TERM[k])) {
                t.terms[k] = k == 3 ? 1 : r.number(0, TOP[k]);
            }
        }
        int lines = 1;
        boolean dealsSeen = false;
        while (!r.done()) {
            if (!r.is(";")) {
                throw new Wrong(r.begin());
            }
            int word = r.begin();
            lines++;
            if (lines > 14) {
                throw new Wrong(word);
            }
            if (r.is("investor")) {
                if (t.committed.size() == 6) {
                    throw new Wrong(word);
                }
                t.committed.add(r.number(1, 9999));
            } else if (r.is("deals")) {
                if (dealsSeen) {
                    throw new Wrong(word);
                }
                dealsSeen = true;
                t.deals = r.number(0, 6);
            } else if (r.is("excuse")) {
                int i = r.number(0, t.committed.size() - 1);
                int atD = r.begin();
                int d = r.number(0, t.deals - 1);
                int others = 0;
                for (int k = 0; k < t.committed.size(); k++) {
                    if (k != i && !t.excused[d][k]) {
                        others++;
                    }
                }
                if (t.excused[d][i] || others == 0) {
                    throw new Wrong(atD);
                }
                t.excused[d][i] = true;
            } else {
                throw new Wrong(word);
            }
        }
        if (t.committed.isEmpty()) {
            throw new Wrong(b.length);
        }
        return t;
    }

    List<Act> readActs(byte[] b) throws Wrong {
        Reader r = new Reader(b);
        List<Act> all = new ArrayList<>();
        World w = new World(now);
        if (r.done()) {
            return all;
        }
        while (true) {
            int word = r.begin();
            if (all.size() == 14) {
                throw new Wrong(word);
            }
            int n = told.committed.size() - 1;
            int d = told.deals - 1;
            Act a;
            if (r.is("call")) {
                int who = r.number(0, d);
                a = new Act(0, who, r.number(1, 9999), NONE);
            } else if (r.is("sell")) {
                int who = r.number(0, d);
                a = new Act(1, who, r.number(0, 9999), NONE);
                if (r.is("last")) {
                    a.kind = 2;
                }
            } else if (r.is("mark")) {
                int who = r.number(0, d);
                a = new Act(3, who, r.number(0, 9999), NONE);
            } else if (r.is("wait")) {
                a = new Act(4, NONE, r.number(1, 60), NONE);
            } else if (r.is("fail")) {
                a = new Act(5, r.number(0, n), 0, NONE);
            } else if (r.is("move")) {
                int who = r.number(0, n);
                int at = r.begin();
                int other = r.number(0, n);
                if (other == who) {
                    throw new Wrong(at);
                }
                a = new Act(7, who, r.number(1, 9999), other);
            } else if (r.is("end")) {
                a = new Act(6, NONE, 0, NONE);
            } else {
                throw new Wrong(word);
            }
            if (journal.size() + all.size() >= 60 || !w.can(a)) {
                throw new Wrong(word);
            }
            w.doIt(a);
            all.add(a);
            if (r.done()) {
                return all;
            }
            if (!r.is(";")) {
                throw new Wrong(r.begin());
            }
        }
    }

    // ---- worlds anew

    static World run(Told told, List<Act> acts) {
        World w = new World(told);
        for (Act a : acts) {
            if (w.can(a)) {
                w.doIt(a);
            }
        }
        return w;
    }

    World under(int term, int n) {
        Told other = told.copy();
        other.terms[term] = n;
        return run(other, journal);
    }

    static long net(World w) {
        return w.taken - w.gave;
    }

    // ---- the face

    long feed(int a, int b, int c, int d, int e) {
        if (tape.length + 20 > 400) {
            return NONE;
        }
        java.nio.ByteBuffer buf = java.nio.ByteBuffer.allocate(tape.length + 20);
        buf.put(tape).putInt(a).putInt(b).putInt(c).putInt(d).putInt(e);
        tape = buf.array();
        return tape.length;
    }

    boolean end(int n) {
        if (n < 0 || n > tape.length) {
            return false;
        }
        tape = Arrays.copyOf(tape, n);
        return true;
    }

    long fund() {
        byte[] text = tape;
        tape = new byte[0];
        fault = NONE;
        try {
            told = readFund(text);
            journal = new ArrayList<>();
            now = new World(told);
        } catch (Wrong w) {
            fault = w.at;
            throw new IllegalArgumentException();
        }
        return told.committed.size();
    }

    long acts() {
        byte[] text = tape;
        tape = new byte[0];
        fault = NONE;
        try {
            List<Act> more = readActs(text);
            journal.addAll(more);
            now = run(told, journal);
            return more.size();
        } catch (Wrong w) {
            fault = w.at;
            throw new IllegalArgumentException();
        }
    }

    long fault() {
        return fault;
    }

    static void what(boolean ok) {
        if (!ok) {
            throw new NoSuchElementException();
        }
    }

    static void number(boolean ok) {
        if (!ok) {
            throw new IllegalArgumentException();
        }
    }

    static void index(boolean ok) {
        if (!ok) {
            throw new IndexOutOfBoundsException();
        }
    }

    boolean isI(int i) {
        return i >= 0 && i < now.n;
    }

    boolean isD(int d) {
        return d >= 0 && d < now.deals;
    }

    long term(int k) {
        what(k >= 0 && k <= 6);
        return told.terms[k];
    }

    long investor(int i, int k) {
        index(isI(i));
        what(k >= 0 && k <= 5);
        return new long[] {now.committed[i], now.uncalled[i], now.paid[i], now.got[i], now.weight(i, NONE),
            now.failed[i] ? 1 : 0}[k];
    }

    long deal(int d, int k) {
        index(isD(d));
        what(k >= 0 && k <= 4);
        long bits = 0;
        for (int i = 0; i < now.n; i++) {
            bits += told.excused[d][i] ? 1L << i : 0;
        }
        return new long[] {now.cost[d], now.brought[d], now.mark[d], now.closed[d] ? 1 : 0, bits}[k];
    }

    long ladder(int d, int k) {
        index(d == -1 || d == -2 || isD(d));
        what(k >= 0 && k <= 3);
        Rung r = d == -1 ? now.whole : d == -2 ? now.burden : now.own[d];
        return new long[] {r.capital, r.pref, r.given, r.taken}[k];
    }

    long manager(int k) {
        what(k >= 0 && k <= 3);
        return new long[] {now.taken, now.out, now.escrow, now.gave}[k];
    }

    long act(Act a) {
        if (!now.can(a)) {
            throw new IllegalStateException();
        }
        if (journal.size() == 60) {
            throw new UnsupportedOperationException();
        }
        journal.add(a);
        return now.doIt(a);
    }

    long call(int d, int sum) {
        index(isD(d));
        number(sum >= 1 && sum <= 9999);
        return act(new Act(0, d, sum, NONE));
    }

    long sell(int d, int sum, boolean last) {
        index(isD(d));
        number(sum >= 0 && sum <= 9999);
        return act(new Act(last ? 2 : 1, d, sum, NONE));
    }

    long mark(int d, int sum) {
        index(isD(d));
        number(sum >= 0 && sum <= 9999);
        return act(new Act(3, d, sum, NONE));
    }

    long quarters(int n) {
        number(n >= 1 && n <= 60);
        return act(new Act(4, NONE, n, NONE));
    }

    long fail(int i) {
        index(isI(i));
        return act(new Act(5, i, 0, NONE));
    }

    long move(int i, int j, int sum) {
        index(isI(i) && isI(j));
        number(i != j && sum >= 1 && sum <= 9999);
        return act(new Act(7, i, sum, j));
    }

    long close() {
        return act(new Act(6, NONE, 0, NONE));
    }

    long undo() {
        if (journal.isEmpty()) {
            throw new IllegalStateException();
        }
        journal.remove(journal.size() - 1);
        now = run(told, journal);
        return journal.size();
    }

    long[] filled(int d, int sum) {
        World w = new World(now);
        return d == NONE || !w.dealwise() ? w.fills(w.whole, null, sum) : w.fills(w.own[d], w.burden, sum);
    }

    long filling(int d, int sum, int k) {
        index(d == NONE || isD(d));
        number(sum >= 0 && sum <= 99999);
        what(k >= 0 && k <= 5);
        return filled(d, sum)[k];
    }

    /** Of the sums from low to 99999 the least for which filling k is so much: those ahead are tried in strides. */
    long least(int low, int d, int k, long n) {
        int stride = 256;
        int from = low;
        for (int sum = low; sum <= 99999; sum += stride) {
            if (filled(d, sum)[k] >= n) {
                break;
            }
            from = sum + 1;
        }
        for (int sum = from; sum <= Math.min(99999, from + stride); sum++) {
            if (filled(d, sum)[k] >= n) {
                return sum;
            }
        }
        return NONE;
    }

    long needed(int d, int step) {
        index(d == NONE || isD(d));
        what(step >= 0 && step <= 3);
        return least(1, d, step, 1);
    }

    long reaches(int d, int n) {
        index(d == NONE || isD(d));
        number(n >= 0 && n <= 99999);
        return least(0, d, 4, n);
    }

    long share(int i, int d, int sum) {
        index(isI(i) && (d == NONE || isD(d)));
        number(sum >= 0 && sum <= 99999);
        return World.shared(sum, now.weights(d))[i];
    }

    long claw() {
        return now.claw();
    }

    long soldOut(int k) {
        what(k >= 0 && k <= 2);
        World w = new World(now);
        w.sellOut();
        return k == 0 ? w.taken : k == 1 ? w.claw() : w.allGot();
    }

    void orders(World w, List<Integer> path, List<List<Integer>> paths, List<Long> gains) {
        boolean some = false;
        for (int d = 0; d < w.deals; d++) {
            if (!w.closed[d]) {
                some = true;
                World next = new World(w);
                next.sell(d, next.mark[d], true);
                path.add(d);
                orders(next, path, paths, gains);
                path.remove(path.size() - 1);
            }
        }
        if (!some) {
            paths.add(new ArrayList<>(path));
            gains.add(w.taken);
        }
    }

    long order(int k) {
        List<List<Integer>> paths = new ArrayList<>();
        List<Long> gains = new ArrayList<>();
        orders(now, new ArrayList<>(), paths, gains);
        int best = 0;
        for (int p = 1; p < paths.size(); p++) {
            if (gains.get(p) > gains.get(best)) {
                best = p;
            }
        }
        if (k == NONE) {
            return gains.get(best);
        }
        return k >= 0 && k < paths.get(best).size() ? paths.get(best).get(k) : NONE;
    }

    long would(int term, int n) {
        what(term >= 0 && term <= 5);
        number(n >= 0 && n <= TOP[term]);
        return net(under(term, n));
    }

    long bar(int n) {
        number(n >= 0 && n <= 99999);
        for (int h = 999; h >= 0; h--) {
            if (net(under(0, h)) >= n) {
                return h;
            }
        }
        return NONE;
    }

    long drift(int i) {
        index(isI(i));
        return now.got[i] - World.shared(now.allGot(), now.weights(NONE))[i];
    }

    long swapped(int k) {
        index(k >= 0 && k + 1 < journal.size());
        List<Act> acts = new ArrayList<>(journal);
        acts.set(k, journal.get(k + 1));
        acts.set(k + 1, journal.get(k));
        World w = new World(told);
        for (Act a : acts) {
            if (!w.can(a)) {
                return NONE;
            }
            w.doIt(a);
        }
        return net(w);
    }

    long lacking(int k) {
        List<Act> acts = new ArrayList<>(journal);
        acts.remove(k);
        return net(run(told, acts));
    }

    long without(int k) {
        index(k >= 0 && k < journal.size());
        return lacking(k);
    }

    long behind(int k, int what) {
        index(k >= 0 && k <= journal.size());
        what(what >= 0 && what <= 4);
        World w = run(told, journal.subList(0, k));
        return new long[] {w.taken, w.allGot(), Arrays.stream(w.uncalled).sum(), w.claw(), w.quarter}[what];
    }

    long clean() {
        for (int c = 50; c >= 0; c--) {
            World w = under(2, c);
            if ((w.ended ? w.gave : w.claw()) == 0) {
                return c;
            }
        }
        return NONE;
    }

    long idle() {
        long n = 0;
        for (int k = 0; k < journal.size(); k++) {
            n += lacking(k) == net(now) ? 1 : 0;
        }
        return n;
    }

    long blame() {
        int best = NONE;
        for (int k = 0; k < journal.size(); k++) {
            if (best == NONE || lacking(k) > lacking(best)) {
                best = k;
            }
        }
        return best;
    }

    long most() {
        long most = 0;
        for (int k = 0; k <= journal.size(); k++) {
            World w = run(told, journal.subList(0, k));
            most = Math.max(most, w.whole.capital + w.whole.pref);
        }
        return most;
    }

    long owed(int d, int n) {
        index(d == NONE || isD(d));
        number(n >= 0 && n <= 60 && now.quarter + n <= 200);
        World w = new World(now);
        for (int q = 0; q < n; q++) {
            w.quarterPasses();
        }
        if (d == NONE || !w.dealwise()) {
            return w.whole.capital + w.whole.pref;
        }
        return w.own[d].capital + w.own[d].pref + w.burden.capital + w.burden.pref;
    }

    long patience(int n) {
        number(n >= 0 && n <= 99999);
        for (int more = Math.min(60, 200 - now.quarter); more >= 0; more--) {
            World w = new World(now);
            for (int q = 0; q < more; q++) {
                w.quarterPasses();
            }
            w.sellOut();
            if (w.taken >= n) {
                return more;
            }
        }
        return NONE;
    }

    long deals(int k) {
        what(k >= 0 && k <= 2);
        int most = NONE;
        int least = NONE;
        long open = 0;
        for (int d = 0; d < now.deals; d++) {
            long won = now.brought[d] - now.cost[d];
            if (most == NONE || won > now.brought[most] - now.cost[most]) {
                most = d;
            }
            if (least == NONE || won < now.brought[least] - now.cost[least]) {
                least = d;
            }
            open += now.closed[d] ? 0 : 1L << d;
        }
        return k == 0 ? most : k == 1 ? least : open;
    }

    long curveAt(int q) {
        long sum = 0;
        for (int i = 0; i < now.n; i++) {
            for (int k = 0; k <= q; k++) {
                sum += now.flow[i][k];
            }
        }
        return sum;
    }

    long curve(int q) {
        number(q >= 0 && q <= now.quarter);
        return curveAt(q);
    }

    long curves(int k) {
        what(k == 0 || k == 1);
        if (k == 0) {
            int deepest = 0;
            for (int q = 1; q <= now.quarter; q++) {
                if (curveAt(q) < curveAt(deepest)) {
                    deepest = q;
                }
            }
            return deepest;
        }
        int turn = NONE;
        for (int q = now.quarter; q >= 0 && curveAt(q) >= 0; q--) {
            turn = q;
        }
        return turn;
    }

    long rate(int i) {
        index(i == NONE || isI(i));
        for (int r = 999; r >= 0; r--) {
            double v = 0;
            for (int q = now.quarter; q >= 0; q--) {
                long f = 0;
                for (int j = 0; j < now.n; j++) {
                    f += i == NONE || i == j ? now.flow[j][q] : 0;
                }
                v = v / (1.0 + r / 10000.0) + f;
            }
            if (v >= 0) {
                return r;
            }
        }
        return NONE;
    }

    long multiple(int i) {
        index(i == NONE || isI(i));
        float got = i == NONE ? now.allGot() : now.got[i];
        float paid = i == NONE ? Arrays.stream(now.paid).sum() : now.paid[i];
        return paid == 0 ? NONE : (int) ((got / paid) * 1000);
    }

    long act(int k, int what) {
        index(k >= 0 && k < journal.size());
        what(what >= 0 && what <= 6);
        World w = run(told, journal.subList(0, k));
        Act a = journal.get(k);
        int quarter = w.quarter;
        w.doIt(a);
        return new long[] {a.kind, a.who, a.sum, quarter, a.other, w.cameI, w.cameM}[what];
    }

    void image() {
        keptTold = told;
        keptJournal = new ArrayList<>(journal);
    }

    boolean back() {
        if (keptTold == null) {
            return false;
        }
        told = keptTold;
        journal = new ArrayList<>(keptJournal);
        now = run(told, journal);
        return true;
    }

    long count(int k) {
        return k < 0 || k > 4 ? NONE
                : new long[] {now.n, now.deals, now.quarter, journal.size(), now.ended ? 1 : 0}[k];
    }
}
