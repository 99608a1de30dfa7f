import java.util.Arrays;
import java.util.NoSuchElementException;

/**
 * The ledger of a fund. Whatever an object knows follows from the fund as it was told and the journal of acts:
 * every question of the kind "what if" is answered by going through the journal anew on a trial state.
 */
public final class WeirLedger {
    public static final int NONE = -1;

    private static final int MOST_INVESTORS = 6;
    private static final int MOST_DEALS = 6;
    private static final int MOST_ACTS = 60;
    private static final int MOST_LINES = 14;
    private static final int MOST_BYTES = 400;
    private static final int FED_BYTES = 20;
    private static final int MOST_DIGITS = 4;
    private static final int MOST_WAIT = 60;
    private static final int LAST_QUARTER = 200;
    private static final int TOP_SUM = 9999;
    private static final int TOP_ASKED = 99999;
    private static final int TOP_RATE = 999;
    private static final long TOP_PREF = 1000000000L;

    private static final int HURDLE = 0;
    private static final int CATCH = 1;
    private static final int CARRY = 2;
    private static final int DEALWISE = 3;
    private static final int TAX = 4;
    private static final int HELD = 5;
    private static final int FEE = 6;
    private static final int TERMS = 7;
    private static final int[] TERM_TOPS = {999, 100, 50, 1, 99, 100, 200};

    private static final int CALL = 0;
    private static final int SELL = 1;
    private static final int SELL_LAST = 2;
    private static final int MARK = 3;
    private static final int WAIT = 4;
    private static final int FAIL = 5;
    private static final int END = 6;
    private static final int MOVE = 7;

    // What a row of the journal has, in the order in which act() asks for it.
    private static final int KIND = 0;
    private static final int WHO = 1;
    private static final int SUM = 2;
    private static final int WHEN = 3;
    private static final int OTHER = 4;
    private static final int TO_INVESTORS = 5;
    private static final int TO_MANAGER = 6;
    private static final int ROW = 7;

    // The ladders: those of the deals by their numbers, then these two; each has four numbers.
    private static final int WHOLE = 6;
    private static final int BURDEN = 7;
    private static final int LADDERS = 8;
    private static final int CAPITAL = 0;
    private static final int PREF = 1;
    private static final int GIVEN = 2;
    private static final int TAKEN = 3;

    // What a deal has, in the order in which deal() asks for it.
    private static final int COST = 0;
    private static final int BROUGHT = 1;
    private static final int MARKED = 2;
    private static final int CLOSED = 3;

    // What the manager has, in the order in which manager() asks for it.
    private static final int KEPT = 0;
    private static final int OUT = 1;
    private static final int ESCROW = 2;
    private static final int GAVE = 3;

    private static final int WIDTH = 4;

    // Behind the four steps of a filling: what comes to the manager, and to the investors.
    private static final int STEPS = 4;
    private static final int MANAGERS_PART = 4;
    private static final int INVESTORS_PART = 5;

    private final Text tape = new Text();
    private final Fund told = new Fund();
    private final Fund draft = new Fund();
    private final Journal journal = new Journal();
    private final State now = new State(true);
    private final State trial = new State(false);
    private final Orders orders = new Orders();
    private final Books forecast = new Books();
    private final Books outcome = new Books();
    private final Fund keptFund = new Fund();
    private final Journal keptJournal = new Journal();
    private boolean imageKept;

    public WeirLedger() {
    }

    // ---- the tape and what is told on it

    public int feed(int a, int b, int c, int d, int e) {
        if (tape.length + FED_BYTES > MOST_BYTES) {
            return NONE;
        }
        tape.append(a);
        tape.append(b);
        tape.append(c);
        tape.append(d);
        tape.append(e);
        return tape.length;
    }

    public boolean end(int n) {
        if (n < 0 || n > tape.length) {
            return false;
        }
        tape.length = n;
        return true;
    }

    public int fund() throws IllegalArgumentException {
        tape.rewind();
        boolean right = draft.readFrom(tape);
        tape.length = 0;
        if (!right) {
            throw new IllegalArgumentException();
        }
        told.copyFrom(draft);
        journal.size = 0;
        goThroughAnew();
        return told.investors;
    }

    public int acts() throws IllegalArgumentException {
        int before = journal.size;
        tape.rewind();
        boolean right = readActs();
        tape.length = 0;
        if (!right) {
            if (journal.size != before) {
                journal.size = before;
                goThroughAnew();
            }
            throw new IllegalArgumentException();
        }
        return journal.size - before;
    }

    public int fault() {
        return tape.wrong;
    }

    // ---- what there is

    public int term(int what) throws NoSuchElementException {
        if (what < 0 || what >= TERMS) {
            throw new NoSuchElementException();
        }
        return told.terms[what];
    }

    public long investor(int investor, int what) throws IndexOutOfBoundsException, NoSuchElementException {
        if (!isInvestor(investor)) {
            throw new IndexOutOfBoundsException();
        }
        switch (what) {
            case 0:
                return now.register.committed[investor];
            case 1:
                return now.register.uncalled[investor];
            case 2:
                return now.register.paid[investor];
            case 3:
                return now.register.got[investor];
            case 4:
                return now.register.weightOf(investor);
            case 5:
                return now.register.hasFailed(investor) ? 1 : 0;
            default:
                throw new NoSuchElementException();
        }
    }

    public int deal(int deal, int what) throws IndexOutOfBoundsException, NoSuchElementException {
        if (!isDeal(deal)) {
            throw new IndexOutOfBoundsException();
        }
        if (what < 0 || what > WIDTH) {
            throw new NoSuchElementException();
        }
        return what == WIDTH ? told.excused[deal] : now.books.dealRows[deal * WIDTH + what];
    }

    public long ladder(int deal, int what) throws IndexOutOfBoundsException, NoSuchElementException {
        if (deal != -1 && deal != -2 && !isDeal(deal)) {
            throw new IndexOutOfBoundsException();
        }
        if (what < 0 || what >= WIDTH) {
            throw new NoSuchElementException();
        }
        int rungs = deal == -1 ? WHOLE : deal == -2 ? BURDEN : deal;
        return now.books.rungs[rungs * WIDTH + what];
    }

    public long manager(int what) throws NoSuchElementException {
        if (what < 0 || what >= WIDTH) {
            throw new NoSuchElementException();
        }
        return now.books.purse[what];
    }

    // ---- acts

    public int call(int deal, int sum)
            throws IndexOutOfBoundsException, IllegalArgumentException, IllegalStateException,
            UnsupportedOperationException {
        if (!isDeal(deal)) {
            throw new IndexOutOfBoundsException();
        }
        if (sum < 1 || sum > TOP_SUM) {
            throw new IllegalArgumentException();
        }
        return (int) done(CALL, deal, sum, NONE);
    }

    public int sell(int deal, int sum, boolean last)
            throws IndexOutOfBoundsException, IllegalArgumentException, IllegalStateException,
            UnsupportedOperationException {
        if (!isDeal(deal)) {
            throw new IndexOutOfBoundsException();
        }
        if (sum < 0 || sum > TOP_SUM) {
            throw new IllegalArgumentException();
        }
        return (int) done(last ? SELL_LAST : SELL, deal, sum, NONE);
    }

    public int mark(int deal, int sum)
            throws IndexOutOfBoundsException, IllegalArgumentException, IllegalStateException,
            UnsupportedOperationException {
        if (!isDeal(deal)) {
            throw new IndexOutOfBoundsException();
        }
        if (sum < 0 || sum > TOP_SUM) {
            throw new IllegalArgumentException();
        }
        return (int) done(MARK, deal, sum, NONE);
    }

    public int quarters(int n)
            throws IllegalArgumentException, IllegalStateException, UnsupportedOperationException {
        if (n < 1 || n > MOST_WAIT) {
            throw new IllegalArgumentException();
        }
        return (int) done(WAIT, NONE, n, NONE);
    }

    public int fail(int investor)
            throws IndexOutOfBoundsException, IllegalStateException, UnsupportedOperationException {
        if (!isInvestor(investor)) {
            throw new IndexOutOfBoundsException();
        }
        return (int) done(FAIL, investor, 0, NONE);
    }

    public int move(int investor, int other, int sum)
            throws IndexOutOfBoundsException, IllegalArgumentException, IllegalStateException,
            UnsupportedOperationException {
        if (!isInvestor(investor) || !isInvestor(other)) {
            throw new IndexOutOfBoundsException();
        }
        if (investor == other || sum < 1 || sum > TOP_SUM) {
            throw new IllegalArgumentException();
        }
        return (int) done(MOVE, investor, sum, other);
    }

    public long close() throws IllegalStateException, UnsupportedOperationException {
        return done(END, NONE, 0, NONE);
    }

    public int undo() throws IllegalStateException {
        if (journal.size == 0) {
            throw new IllegalStateException();
        }
        journal.size--;
        goThroughAnew();
        return journal.size;
    }

    // ---- what a sum would do

    public long filling(int deal, int sum, int what)
            throws IndexOutOfBoundsException, IllegalArgumentException, NoSuchElementException {
        if (!isDealOrNone(deal)) {
            throw new IndexOutOfBoundsException();
        }
        if (sum < 0 || sum > TOP_ASKED) {
            throw new IllegalArgumentException();
        }
        if (what < 0 || what > INVESTORS_PART) {
            throw new NoSuchElementException();
        }
        measureAt(deal, sum);
        return now.books.filled[what];
    }

    public int needed(int deal, int step) throws IndexOutOfBoundsException, NoSuchElementException {
        if (!isDealOrNone(deal)) {
            throw new IndexOutOfBoundsException();
        }
        if (step < 0 || step >= STEPS) {
            throw new NoSuchElementException();
        }
        measureAt(deal, TOP_ASKED);
        long[] filled = now.books.filled;
        if (filled[step] == 0) {
            return NONE;
        }
        // A step gets its first coin when all those ahead of it are full.
        long ahead = 0;
        for (int k = 0; k < step; k++) {
            ahead += filled[k];
        }
        return (int) ahead + 1;
    }

    public int reaches(int deal, int n) throws IndexOutOfBoundsException, IllegalArgumentException {
        if (!isDealOrNone(deal)) {
            throw new IndexOutOfBoundsException();
        }
        if (n < 0 || n > TOP_ASKED) {
            throw new IllegalArgumentException();
        }
        // The manager's part never falls when the sum grows, so halving finds the least sum.
        int low = 0;
        int high = TOP_ASKED + 1;
        for (int halving = 0; halving < 20 && low < high; halving++) {
            int middle = (low + high) / 2;
            measureAt(deal, middle);
            if (now.books.filled[MANAGERS_PART] >= n) {
                high = middle;
            } else {
                low = middle + 1;
            }
        }
        return low > TOP_ASKED ? NONE : low;
    }

    public int share(int investor, int deal, int sum) throws IndexOutOfBoundsException, IllegalArgumentException {
        if (!isInvestor(investor) || !isDealOrNone(deal)) {
            throw new IndexOutOfBoundsException();
        }
        if (sum < 0 || sum > TOP_ASKED) {
            throw new IllegalArgumentException();
        }
        now.register.weighFor(deal);
        now.register.split(sum);
        return (int) now.register.parts[investor];
    }

    public long claw() {
        return now.books.clawDue();
    }

    public long soldOut(int what) throws NoSuchElementException {
        if (what < 0 || what > 2) {
            throw new NoSuchElementException();
        }
        outcome.copyFrom(now.books);
        long came = outcome.sellAll();
        if (what == 0) {
            return outcome.purse[KEPT];
        }
        return what == 1 ? outcome.clawDue() : now.register.gotTogether + came;
    }

    public long order(int k) {
        orders.search(now.books);
        if (k == NONE) {
            return orders.best;
        }
        return k < 0 || k >= orders.length ? NONE : orders.bestPath[k];
    }

    // ---- were the terms, or the acts, others

    public long would(int term, int n) throws NoSuchElementException, IllegalArgumentException {
        if (term < 0 || term >= FEE) {
            throw new NoSuchElementException();
        }
        if (n < 0 || n > TERM_TOPS[term]) {
            throw new IllegalArgumentException();
        }
        return booksUnder(term, n).netTaken();
    }

    public int bar(int n) throws IllegalArgumentException {
        if (n < 0 || n > TOP_ASKED) {
            throw new IllegalArgumentException();
        }
        for (int hurdle = TERM_TOPS[HURDLE]; hurdle >= 0; hurdle--) {
            if (booksUnder(HURDLE, hurdle).netTaken() >= n) {
                return hurdle;
            }
        }
        return NONE;
    }

    public long drift(int investor) throws IndexOutOfBoundsException {
        if (!isInvestor(investor)) {
            throw new IndexOutOfBoundsException();
        }
        now.register.weighFor(NONE);
        now.register.split(now.register.gotTogether);
        return now.register.got[investor] - now.register.parts[investor];
    }

    public long swapped(int k) throws IndexOutOfBoundsException {
        if (k < 0 || k >= journal.size - 1) {
            throw new IndexOutOfBoundsException();
        }
        trial.open(told);
        for (int j = 0; j < journal.size; j++) {
            int instead = j == k ? k + 1 : j == k + 1 ? k : j;
            if (!trial.follow(journal, instead)) {
                return NONE;
            }
        }
        return trial.books.netTaken();
    }

    public long without(int k) throws IndexOutOfBoundsException {
        if (k < 0 || k >= journal.size) {
            throw new IndexOutOfBoundsException();
        }
        return netTakenWithout(k);
    }

    public long behind(int k, int what) throws IndexOutOfBoundsException, NoSuchElementException {
        if (k < 0 || k > journal.size) {
            throw new IndexOutOfBoundsException();
        }
        if (what < 0 || what > 4) {
            throw new NoSuchElementException();
        }
        trial.open(told);
        for (int j = 0; j < k; j++) {
            trial.follow(journal, j);
        }
        switch (what) {
            case 0:
                return trial.books.purse[KEPT];
            case 1:
                return trial.register.gotTogether;
            case 2:
                return trial.register.allOf(trial.register.uncalled);
            case 3:
                return trial.books.clawDue();
            default:
                return trial.books.quarter;
        }
    }

    public int clean() {
        for (int carry = TERM_TOPS[CARRY]; carry >= 0; carry--) {
            Books books = booksUnder(CARRY, carry);
            long back = books.ended ? books.purse[GAVE] : books.clawDue();
            if (back == 0) {
                return carry;
            }
        }
        return NONE;
    }

    public int idle() {
        long asItIs = now.books.netTaken();
        int found = 0;
        for (int k = 0; k < journal.size; k++) {
            if (netTakenWithout(k) == asItIs) {
                found++;
            }
        }
        return found;
    }

    public int blame() {
        int found = NONE;
        long most = 0;
        for (int k = 0; k < journal.size; k++) {
            long net = netTakenWithout(k);
            if (found == NONE || net > most) {
                found = k;
                most = net;
            }
        }
        return found;
    }

    public long most() {
        trial.open(told);
        long most = trial.books.standing(WHOLE);
        for (int k = 0; k < journal.size; k++) {
            trial.follow(journal, k);
            most = Math.max(most, trial.books.standing(WHOLE));
        }
        return most;
    }

    // ---- what time would do

    public long owed(int deal, int n) throws IndexOutOfBoundsException, IllegalArgumentException {
        if (!isDealOrNone(deal)) {
            throw new IndexOutOfBoundsException();
        }
        if (n < 0 || n > MOST_WAIT || now.books.quarter + n > LAST_QUARTER) {
            throw new IllegalArgumentException();
        }
        forecast.copyFrom(now.books);
        long uncalled = now.register.allOf(now.register.uncalled);
        for (int k = 0; k < n; k++) {
            long fee = Math.min(now.fullFee(), uncalled);
            uncalled -= fee;
            forecast.pass(fee);
        }
        if (deal == NONE || !forecast.isDealwise()) {
            return forecast.standing(WHOLE);
        }
        return forecast.standing(deal) + forecast.standing(BURDEN);
    }

    public int patience(int n) throws IllegalArgumentException {
        if (n < 0 || n > TOP_ASKED) {
            throw new IllegalArgumentException();
        }
        int found = NONE;
        int longest = Math.min(MOST_WAIT, LAST_QUARTER - now.books.quarter);
        long uncalled = now.register.allOf(now.register.uncalled);
        forecast.copyFrom(now.books);
        for (int k = 0; k <= longest; k++) {
            outcome.copyFrom(forecast);
            outcome.sellAll();
            if (outcome.purse[KEPT] >= n) {
                found = k;
            }
            long fee = Math.min(now.fullFee(), uncalled);
            uncalled -= fee;
            forecast.pass(fee);
        }
        return found;
    }

    // ---- how it went

    public int deals(int what) throws NoSuchElementException {
        switch (what) {
            case 0:
                return now.books.extremeDeal(1);
            case 1:
                return now.books.extremeDeal(-1);
            case 2:
                return now.books.openDeals();
            default:
                throw new NoSuchElementException();
        }
    }

    public long curve(int quarter) throws IllegalArgumentException {
        if (quarter < 0 || quarter > now.books.quarter) {
            throw new IllegalArgumentException();
        }
        long sum = 0;
        for (int q = 0; q <= quarter; q++) {
            sum += now.trace.flow(MOST_INVESTORS, q);
        }
        return sum;
    }

    public int curves(int what) throws NoSuchElementException {
        if (what != 0 && what != 1) {
            throw new NoSuchElementException();
        }
        long sum = 0;
        long least = 0;
        int deepest = NONE;
        int turn = NONE;
        for (int q = 0; q <= now.books.quarter; q++) {
            sum += now.trace.flow(MOST_INVESTORS, q);
            if (deepest == NONE || sum < least) {
                deepest = q;
                least = sum;
            }
            if (sum < 0) {
                turn = NONE;
            } else if (turn == NONE) {
                turn = q;
            }
        }
        return what == 0 ? deepest : turn;
    }

    public int rate(int investor) throws IndexOutOfBoundsException {
        if (investor != NONE && !isInvestor(investor)) {
            throw new IndexOutOfBoundsException();
        }
        int row = investor == NONE ? MOST_INVESTORS : investor;
        for (int rate = TOP_RATE; rate >= 0; rate--) {
            if (now.trace.worth(row, now.books.quarter, rate) >= 0.0) {
                return rate;
            }
        }
        return NONE;
    }

    public int multiple(int investor) throws IndexOutOfBoundsException {
        if (investor != NONE && !isInvestor(investor)) {
            throw new IndexOutOfBoundsException();
        }
        long got = investor == NONE ? now.register.gotTogether : now.register.got[investor];
        long paid = investor == NONE ? now.register.allOf(now.register.paid) : now.register.paid[investor];
        if (paid == 0) {
            return NONE;
        }
        float times = (float) got / (float) paid;
        return (int) (times * 1000.0f);
    }

    public int act(int k, int what) throws IndexOutOfBoundsException, NoSuchElementException {
        if (k < 0 || k >= journal.size) {
            throw new IndexOutOfBoundsException();
        }
        if (what < 0 || what >= ROW) {
            throw new NoSuchElementException();
        }
        return journal.rows[k * ROW + what];
    }

    // ---- the image

    public void image() {
        keptFund.copyFrom(told);
        keptJournal.copyFrom(journal);
        imageKept = true;
    }

    public boolean back() {
        if (!imageKept) {
            return false;
        }
        told.copyFrom(keptFund);
        journal.copyFrom(keptJournal);
        goThroughAnew();
        return true;
    }

    public int count(int what) {
        switch (what) {
            case 0:
                return told.investors;
            case 1:
                return told.dealCount;
            case 2:
                return now.books.quarter;
            case 3:
                return journal.size;
            case 4:
                return now.books.ended ? 1 : 0;
            default:
                return NONE;
        }
    }

    // ---- helpers of the face

    private boolean isInvestor(int investor) {
        return investor >= 0 && investor < told.investors;
    }

    private boolean isDeal(int deal) {
        return deal >= 0 && deal < told.dealCount;
    }

    private boolean isDealOrNone(int deal) {
        return deal == NONE || isDeal(deal);
    }

    private void measureAt(int deal, int sum) {
        boolean byDeal = deal != NONE && now.books.isDealwise();
        now.books.measure(byDeal ? deal : WHOLE, byDeal, sum);
    }

    private long done(int kind, int who, int sum, int other) {
        if (!now.canBe(kind, who, sum, other)) {
            throw new IllegalStateException();
        }
        if (journal.size >= MOST_ACTS) {
            throw new UnsupportedOperationException();
        }
        return doAndWrite(kind, who, sum, other);
    }

    private long doAndWrite(int kind, int who, int sum, int other) {
        int when = now.books.quarter;
        long answer = now.perform(kind, who, sum, other);
        journal.write(kind, who, sum, when, other);
        journal.writeComing((int) now.toInvestors, (int) now.toManager);
        return answer;
    }

    private void goThroughAnew() {
        now.open(told);
        for (int k = 0; k < journal.size; k++) {
            now.follow(journal, k);
        }
    }

    private long netTakenWithout(int k) {
        trial.open(told);
        for (int j = 0; j < journal.size; j++) {
            if (j != k) {
                trial.follow(journal, j);
            }
        }
        return trial.books.netTaken();
    }

    /** The terms that can be others decide neither which acts can be nor what a fee is: the books alone are enough. */
    private Books booksUnder(int term, int n) {
        Books books = trial.books;
        books.open(told);
        books.terms[term] = n;
        for (int k = 0; k < journal.size; k++) {
            books.retrace(journal, k, now.trace.fees);
        }
        return books;
    }

    private boolean readActs() {
        if (tape.isThrough()) {
            return true;
        }
        for (int n = 1; n <= MOST_LINES; n++) {
            if (!readAct()) {
                return false;
            }
            if (tape.isThrough()) {
                return true;
            }
            if (!tape.takeSemicolon()) {
                return tape.refuseNext();
            }
        }
        return tape.refuseNext();
    }

    private boolean readAct() {
        int first = tape.next();
        int kind = tape.takeKind();
        if (kind == NONE) {
            return tape.refuse(first);
        }
        int who = NONE;
        int other = NONE;
        int sum = 0;
        if (kind == FAIL || kind == MOVE) {
            who = tape.takeNumber(0, told.investors - 1);
        } else if (kind != WAIT && kind != END) {
            who = tape.takeNumber(0, told.dealCount - 1);
        }
        if (tape.isRight() && kind == MOVE) {
            other = tape.takeNumberUnlike(who, told.investors - 1);
        }
        if (tape.isRight() && kind != FAIL && kind != END) {
            int least = kind == SELL || kind == MARK ? 0 : 1;
            sum = tape.takeNumber(least, kind == WAIT ? MOST_WAIT : TOP_SUM);
        }
        if (!tape.isRight()) {
            return false;
        }
        if (kind == SELL && tape.takeWord("last")) {
            kind = SELL_LAST;
        }
        if (journal.size >= MOST_ACTS || !now.canBe(kind, who, sum, other)) {
            return tape.refuse(first);
        }
        doAndWrite(kind, who, sum, other);
        return true;
    }

    /** The tape, and where its reading stands. */
    private static final class Text {
        final int[] bytes = new int[MOST_BYTES];
        int length;
        int place;
        int wrong = NONE;

        void append(int four) {
            for (int shift = 24; shift >= 0; shift -= 8) {
                if (length < MOST_BYTES) {
                    bytes[length] = (four >>> shift) & 255;
                    length++;
                }
            }
        }

        void rewind() {
            place = 0;
            wrong = NONE;
        }

        boolean isRight() {
            return wrong == NONE;
        }

        boolean refuse(int at) {
            wrong = at;
            return false;
        }

        boolean refuseNext() {
            return refuse(next());
        }

        /** The place of the next thing, the length if there is none. */
        int next() {
            while (place < length && bytes[place] == ' ') {
                place++;
            }
            return place;
        }

        boolean isThrough() {
            return next() == length;
        }

        boolean takeSemicolon() {
            if (isThrough() || bytes[place] != ';') {
                return false;
            }
            place++;
            return true;
        }

        boolean isLetterAt(int at) {
            return at < length && bytes[at] >= 'a' && bytes[at] <= 'z';
        }

        static boolean isDigit(int sign) {
            return sign >= '0' && sign <= '9';
        }

        boolean takeWord(String word) {
            int first = next();
            int behind = first + word.length();
            if (behind > length || isLetterAt(behind)) {
                return false;
            }
            for (int k = first; k < behind; k++) {
                if (bytes[k] != word.charAt(k - first)) {
                    return false;
                }
            }
            place = behind;
            return true;
        }

        /** The number that comes; NONE, and the text is wrong there, if none within the bounds does. */
        int takeNumber(int least, int top) {
            int first = next();
            int behind = first;
            int value = 0;
            for (; behind < length && isDigit(bytes[behind]); behind++) {
                if (behind - first < MOST_DIGITS) {
                    value = value * 10 + bytes[behind] - '0';
                }
            }
            if (behind == first || behind - first > MOST_DIGITS || value < least || value > top) {
                refuse(first);
                return NONE;
            }
            place = behind;
            return value;
        }

        int takeNumberUnlike(int like, int top) {
            int first = next();
            int value = takeNumber(0, top);
            if (value != NONE && value == like) {
                refuse(first);
                return NONE;
            }
            return value;
        }

        /** The kind of act whose word comes; a sale is told as one that is not the last. */
        int takeKind() {
            if (takeWord("call")) {
                return CALL;
            }
            if (takeWord("sell")) {
                return SELL;
            }
            if (takeWord("mark")) {
                return MARK;
            }
            if (takeWord("wait")) {
                return WAIT;
            }
            if (takeWord("fail")) {
                return FAIL;
            }
            if (takeWord("move")) {
                return MOVE;
            }
            return takeWord("end") ? END : NONE;
        }
    }

    /** The fund as it was told; without investors: none was. */
    private static final class Fund {
        final int[] terms = new int[TERMS];
        final int[] committed = new int[MOST_INVESTORS];
        final int[] excused = new int[MOST_DEALS];
        int investors;
        int dealCount;
        boolean dealsTold;

        void clear() {
            Arrays.fill(terms, 0);
            Arrays.fill(committed, 0);
            Arrays.fill(excused, 0);
            investors = 0;
            dealCount = 0;
            dealsTold = false;
        }

        void copyFrom(Fund other) {
            System.arraycopy(other.terms, 0, terms, 0, TERMS);
            System.arraycopy(other.committed, 0, committed, 0, MOST_INVESTORS);
            System.arraycopy(other.excused, 0, excused, 0, MOST_DEALS);
            investors = other.investors;
            dealCount = other.dealCount;
            dealsTold = other.dealsTold;
        }

        boolean readFrom(Text text) {
            clear();
            if (!text.takeWord("fund")) {
                return text.refuseNext();
            }
            if (!readTerms(text)) {
                return false;
            }
            for (int lines = 1; lines < MOST_LINES; lines++) {
                if (text.isThrough()) {
                    return investors > 0 || text.refuseNext();
                }
                if (!text.takeSemicolon()) {
                    return text.refuseNext();
                }
                if (!readLine(text)) {
                    return false;
                }
            }
            if (text.isThrough()) {
                return investors > 0 || text.refuseNext();
            }
            text.takeSemicolon();
            return text.refuseNext();
        }

        boolean readTerms(Text text) {
            for (int term = 0; term < TERMS; term++) {
                if (text.takeWord(termWord(term))) {
                    terms[term] = term == DEALWISE ? 1 : text.takeNumber(0, TERM_TOPS[term]);
                    if (!text.isRight()) {
                        return false;
                    }
                }
            }
            return true;
        }

        static String termWord(int term) {
            switch (term) {
                case HURDLE:
                    return "hurdle";
                case CATCH:
                    return "catch";
                case CARRY:
                    return "carry";
                case DEALWISE:
                    return "dealwise";
                case TAX:
                    return "tax";
                case HELD:
                    return "held";
                default:
                    return "fee";
            }
        }

        boolean readLine(Text text) {
            int first = text.next();
            if (text.takeWord("investor")) {
                if (investors >= MOST_INVESTORS) {
                    return text.refuse(first);
                }
                committed[investors] = text.takeNumber(1, TOP_SUM);
                investors++;
                return text.isRight();
            }
            if (text.takeWord("deals")) {
                if (dealsTold) {
                    return text.refuse(first);
                }
                dealsTold = true;
                dealCount = text.takeNumber(0, MOST_DEALS);
                return text.isRight();
            }
            return text.takeWord("excuse") ? readExcuse(text) : text.refuse(first);
        }

        boolean readExcuse(Text text) {
            int investor = text.takeNumber(0, investors - 1);
            if (!text.isRight()) {
                return false;
            }
            int place = text.next();
            int which = text.takeNumber(0, dealCount - 1);
            if (!text.isRight()) {
                return false;
            }
            int with = excused[which] | 1 << investor;
            if (with == excused[which] || with == (1 << investors) - 1) {
                return text.refuse(place);
            }
            excused[which] = with;
            return true;
        }
    }

    /** The acts that were done, a row each. */
    private static final class Journal {
        final int[] rows = new int[MOST_ACTS * ROW];
        int size;

        void copyFrom(Journal other) {
            System.arraycopy(other.rows, 0, rows, 0, MOST_ACTS * ROW);
            size = other.size;
        }

        void write(int kind, int who, int sum, int when, int other) {
            if (size < MOST_ACTS) {
                int row = size * ROW;
                rows[row + KIND] = kind;
                rows[row + WHO] = who;
                rows[row + SUM] = sum;
                rows[row + WHEN] = when;
                rows[row + OTHER] = other;
                size++;
            }
        }

        /** What the act that was written last brought. */
        void writeComing(int toInvestors, int toManager) {
            if (size > 0) {
                int row = (size - 1) * ROW;
                rows[row + TO_INVESTORS] = toInvestors;
                rows[row + TO_MANAGER] = toManager;
            }
        }
    }

    /** What went to and from the investors quarter by quarter, and the fees. */
    private static final class Trace {
        static final int QUARTERS = LAST_QUARTER + 1;

        // A row for each investor, and one behind them for all together.
        final long[] net;
        final long[] fees;

        /** One that is never used has no room. */
        Trace(boolean used) {
            net = new long[used ? (MOST_INVESTORS + 1) * QUARTERS : 0];
            fees = new long[used ? QUARTERS : 0];
        }

        void clear() {
            Arrays.fill(net, 0L);
            Arrays.fill(fees, 0L);
        }

        void add(int investor, int quarter, long sum) {
            net[investor * QUARTERS + quarter] += sum;
            net[MOST_INVESTORS * QUARTERS + quarter] += sum;
        }

        long flow(int row, int quarter) {
            return net[row * QUARTERS + quarter];
        }

        double worth(int row, int quarter, int rate) {
            double step = 1.0 + rate / 10000.0;
            double v = 0.0;
            for (int q = quarter; q >= 0; q--) {
                v = v / step + (double) net[row * QUARTERS + q];
            }
            return v;
        }
    }

    /** Ladders, deals and the manager: all for which it does not matter which investor has what. */
    private static final class Books {
        final int[] terms = new int[TERMS];
        final long[] rungs = new long[LADDERS * WIDTH];
        final int[] dealRows = new int[MOST_DEALS * WIDTH];
        final long[] purse = new long[WIDTH];
        // What the latest measuring found: the steps, the manager's part, the investors' part.
        final long[] filled = new long[INVESTORS_PART + 1];
        int dealCount;
        int quarter;
        boolean ended;

        void open(Fund fund) {
            System.arraycopy(fund.terms, 0, terms, 0, TERMS);
            Arrays.fill(rungs, 0L);
            Arrays.fill(dealRows, 0);
            Arrays.fill(purse, 0L);
            dealCount = fund.dealCount;
            quarter = 0;
            ended = false;
        }

        void copyFrom(Books other) {
            System.arraycopy(other.terms, 0, terms, 0, TERMS);
            System.arraycopy(other.rungs, 0, rungs, 0, LADDERS * WIDTH);
            System.arraycopy(other.dealRows, 0, dealRows, 0, MOST_DEALS * WIDTH);
            System.arraycopy(other.purse, 0, purse, 0, WIDTH);
            dealCount = other.dealCount;
            quarter = other.quarter;
            ended = other.ended;
        }

        boolean isDealwise() {
            return terms[DEALWISE] == 1;
        }

        boolean isOpen(int which) {
            return dealRows[which * WIDTH + CLOSED] == 0;
        }

        int openDeals() {
            int bits = 0;
            for (int d = 0; d < dealCount; d++) {
                if (isOpen(d)) {
                    bits |= 1 << d;
                }
            }
            return bits;
        }

        /** The first deal that won most (sign 1) or least (sign -1). */
        int extremeDeal(int sign) {
            int found = NONE;
            int most = 0;
            for (int d = 0; d < dealCount; d++) {
                int won = sign * (dealRows[d * WIDTH + BROUGHT] - dealRows[d * WIDTH + COST]);
                if (found == NONE || won > most) {
                    found = d;
                    most = won;
                }
            }
            return found;
        }

        long standing(int ladder) {
            return rungs[ladder * WIDTH + CAPITAL] + rungs[ladder * WIDTH + PREF];
        }

        long netTaken() {
            return purse[KEPT] - purse[GAVE];
        }

        void raise(int which, int sum) {
            dealRows[which * WIDTH + COST] += sum;
            rungs[WHOLE * WIDTH + CAPITAL] += sum;
            if (isDealwise()) {
                rungs[which * WIDTH + CAPITAL] += sum;
            }
        }

        int remark(int which, int sum) {
            int was = dealRows[which * WIDTH + MARKED];
            dealRows[which * WIDTH + MARKED] = sum;
            return was;
        }

        /** A quarter passes, by which the investors pay this fee. */
        void pass(long fee) {
            int hurdle = terms[HURDLE];
            for (int at = 0; at < LADDERS * WIDTH; at += WIDTH) {
                long both = rungs[at + CAPITAL] + rungs[at + PREF];
                if (both > 0) {
                    rungs[at + PREF] = Math.min(rungs[at + PREF] + both * hurdle / 10000, TOP_PREF);
                }
            }
            rungs[WHOLE * WIDTH + CAPITAL] += fee;
            if (isDealwise()) {
                rungs[BURDEN * WIDTH + CAPITAL] += fee;
            }
            quarter++;
        }

        /** How a sum would fill a ladder, with the burden's or not; nothing is filled by that. */
        void measure(int ladder, boolean burdened, long sum) {
            int at = ladder * WIDTH;
            long left = sum;
            long capital = rungs[at + CAPITAL];
            long pref = rungs[at + PREF];
            if (burdened) {
                capital += rungs[BURDEN * WIDTH + CAPITAL];
                pref += rungs[BURDEN * WIDTH + PREF];
            }
            filled[0] = Math.min(left, capital);
            left -= filled[0];
            filled[1] = Math.min(left, pref);
            left -= filled[1];
            filled[2] = catchUp(rungs[at + GIVEN] + filled[1], rungs[at + TAKEN], left);
            left -= filled[2];
            filled[3] = left;
            filled[MANAGERS_PART] = terms[CATCH] * filled[2] / 100 + terms[CARRY] * left / 100;
            filled[INVESTORS_PART] = sum - filled[MANAGERS_PART];
        }

        /** The least part of what is left by which the manager has caught up; all of it, if there is none. */
        long catchUp(long given, long taken, long left) {
            long carry = terms[CARRY];
            long gap = terms[CATCH] - carry;
            long lacking = carry * (given + taken) - 100 * taken;
            if (gap <= 0 || lacking <= 0) {
                return 0;
            }
            // A part y makes good gap * y at most, and by rounding less than 100 below that.
            long y = (lacking + gap - 1) / gap;
            for (int tries = 0; tries < 200 && y < left; tries++) {
                if (terms[CATCH] * y / 100 * 100 - carry * y >= lacking) {
                    return y;
                }
                y++;
            }
            return left;
        }

        /** What was measured last is filled into that ladder: its own first, then the burden's. */
        void pour(int ladder) {
            int at = ladder * WIDTH;
            long capital = Math.min(filled[0], rungs[at + CAPITAL]);
            rungs[at + CAPITAL] -= capital;
            rungs[BURDEN * WIDTH + CAPITAL] -= filled[0] - capital;
            long pref = Math.min(filled[1], rungs[at + PREF]);
            rungs[at + PREF] -= pref;
            rungs[BURDEN * WIDTH + PREF] -= filled[1] - pref;
            rungs[at + GIVEN] += filled[INVESTORS_PART] - filled[0];
            rungs[at + TAKEN] += filled[MANAGERS_PART];
        }

        /** A sale; filled has then what came to whom. */
        void sellDeal(int which, int sum, boolean last) {
            dealRows[which * WIDTH + BROUGHT] += sum;
            measure(WHOLE, false, sum);
            pour(WHOLE);
            if (isDealwise()) {
                measure(which, true, sum);
                pour(which);
            }
            long taken = filled[MANAGERS_PART];
            long held = terms[HELD] * taken / 100;
            purse[KEPT] += taken;
            purse[ESCROW] += held;
            purse[OUT] += taken - held;
            if (last) {
                dealRows[which * WIDTH + CLOSED] = 1;
                shiftToBurden(which * WIDTH + CAPITAL, BURDEN * WIDTH + CAPITAL);
                shiftToBurden(which * WIDTH + PREF, BURDEN * WIDTH + PREF);
            }
        }

        void shiftToBurden(int from, int to) {
            rungs[to] += rungs[from];
            rungs[from] = 0;
        }

        /** All that is open is sold for its mark, by numbers: what comes to the investors. */
        long sellAll() {
            long came = 0;
            for (int d = 0; d < dealCount; d++) {
                if (isOpen(d)) {
                    sellDeal(d, dealRows[d * WIDTH + MARKED], true);
                    came += filled[INVESTORS_PART];
                }
            }
            return came;
        }

        long dueNow() {
            return Math.max(0, purse[KEPT] - rungs[WHOLE * WIDTH + TAKEN]);
        }

        long clawFromOut(long stillDue) {
            long afterTax = purse[OUT] - terms[TAX] * purse[OUT] / 100;
            return Math.min(stillDue, afterTax);
        }

        long clawDue() {
            if (ended) {
                return 0;
            }
            long due = dueNow();
            long escrow = Math.min(purse[ESCROW], due);
            return escrow + clawFromOut(due - escrow);
        }

        /** The end: what the manager gave back. */
        long settle() {
            long due = dueNow();
            long escrow = Math.min(purse[ESCROW], due);
            long out = clawFromOut(due - escrow);
            purse[GAVE] += escrow + out;
            purse[OUT] += purse[ESCROW] - escrow - out;
            purse[ESCROW] = 0;
            ended = true;
            return escrow + out;
        }

        /** An act that was done once is done anew under these terms, with the fees that were paid. */
        void retrace(Journal journal, int k, long[] fees) {
            int who = journal.rows[k * ROW + WHO];
            int sum = journal.rows[k * ROW + SUM];
            int kind = journal.rows[k * ROW + KIND];
            switch (kind) {
                case CALL:
                    raise(who, sum);
                    break;
                case SELL:
                case SELL_LAST:
                    sellDeal(who, sum, kind == SELL_LAST);
                    break;
                case WAIT:
                    for (int n = 0; n < sum && quarter < LAST_QUARTER; n++) {
                        pass(fees[quarter]);
                    }
                    break;
                case END:
                    settle();
                    break;
                default:
                    break;
            }
        }
    }

    /** The investors. */
    private static final class Register {
        final int[] committed = new int[MOST_INVESTORS];
        final int[] uncalled = new int[MOST_INVESTORS];
        final int[] paid = new int[MOST_INVESTORS];
        final long[] got = new long[MOST_INVESTORS];
        final int[] excused = new int[MOST_DEALS];
        // By what a sum is split, what each has of it, and what remained of each quotient.
        final long[] weights = new long[MOST_INVESTORS];
        final long[] parts = new long[MOST_INVESTORS];
        final long[] remainders = new long[MOST_INVESTORS];
        int size;
        int failedBits;
        long gotTogether;

        void open(Fund fund) {
            System.arraycopy(fund.committed, 0, committed, 0, MOST_INVESTORS);
            System.arraycopy(fund.committed, 0, uncalled, 0, MOST_INVESTORS);
            System.arraycopy(fund.excused, 0, excused, 0, MOST_DEALS);
            Arrays.fill(paid, 0);
            Arrays.fill(got, 0L);
            size = fund.investors;
            failedBits = 0;
            gotTogether = 0;
        }

        boolean hasFailed(int investor) {
            return (failedBits >> investor & 1) == 1;
        }

        boolean isExcused(int investor, int which) {
            return which != NONE && (excused[which] >> investor & 1) == 1;
        }

        int weightOf(int investor) {
            boolean half = (failedBits >> investor & 1) == 1;
            return half ? (committed[investor] + 1) / 2 : committed[investor];
        }

        /** One of the rows above, of all investors together. */
        long allOf(int[] row) {
            long sum = 0;
            for (int i = 0; i < size; i++) {
                sum += row[i];
            }
            return sum;
        }

        void weighFor(int which) {
            for (int i = 0; i < size; i++) {
                weights[i] = isExcused(i, which) ? 0 : weightOf(i);
            }
        }

        void weighUncalled(int which) {
            for (int i = 0; i < size; i++) {
                weights[i] = isExcused(i, which) ? 0 : uncalled[i];
            }
        }

        long callable(int which) {
            long sum = 0;
            for (int i = 0; i < size; i++) {
                if (!isExcused(i, which)) {
                    sum += uncalled[i];
                }
            }
            return sum;
        }

        /** A sum is shared by the weights. */
        void split(long sum) {
            long all = 0;
            for (int i = 0; i < size; i++) {
                all += weights[i];
            }
            long left = sum;
            for (int i = 0; i < size; i++) {
                long product = sum * weights[i];
                parts[i] = all > 0 ? product / all : 0;
                remainders[i] = all > 0 ? product % all : 0;
                left -= parts[i];
            }
            for (int coin = 0; coin < size && coin < left; coin++) {
                int greatest = 0;
                for (int i = 1; i < size; i++) {
                    if (remainders[i] > remainders[greatest]) {
                        greatest = i;
                    }
                }
                // Without any weight nobody has a remainder, and the coins stay.
                if (remainders[greatest] > 0) {
                    parts[greatest]++;
                    remainders[greatest] = 0;
                }
            }
        }

        int setFailed(int investor) {
            failedBits |= 1 << investor;
            uncalled[investor] = 0;
            return weightOf(investor);
        }

        boolean canHandOver(int from, int to, int sum) {
            return sum < committed[from] && committed[to] + sum <= TOP_SUM && !hasFailed(from) && !hasFailed(to);
        }

        int handOver(int from, int to, int sum) {
            int going = committed[from] > 0 ? (int) ((long) uncalled[from] * sum / committed[from]) : 0;
            uncalled[from] -= going;
            uncalled[to] += going;
            committed[from] -= sum;
            committed[to] += sum;
            return going;
        }
    }

    /** Books and register together: on them acts are done. */
    private static final class State {
        final Books books = new Books();
        final Register register = new Register();
        // Not in a trial: there nobody asks who got what, nor when.
        final boolean traced;
        final Trace trace;
        long toInvestors;
        long toManager;

        State(boolean traced) {
            this.traced = traced;
            trace = new Trace(traced);
        }

        void open(Fund fund) {
            books.open(fund);
            register.open(fund);
            trace.clear();
        }

        boolean canBe(int kind, int who, int sum, int other) {
            if (register.size == 0 || books.ended) {
                return false;
            }
            switch (kind) {
                case CALL:
                    return books.isOpen(who) && sum <= register.callable(who);
                case SELL:
                case SELL_LAST:
                    return books.isOpen(who);
                case WAIT:
                    return books.quarter + sum <= LAST_QUARTER;
                case FAIL:
                    return !register.hasFailed(who);
                case MOVE:
                    return register.canHandOver(who, other, sum);
                case END:
                    return books.openDeals() == 0;
                default:
                    return true;
            }
        }

        /** An act that can be is done: what the call for it answers. */
        long perform(int kind, int who, int sum, int other) {
            toInvestors = 0;
            toManager = 0;
            switch (kind) {
                case CALL:
                    register.weighUncalled(who);
                    takeIn(sum);
                    books.raise(who, sum);
                    return register.allOf(register.uncalled);
                case SELL:
                case SELL_LAST:
                    books.sellDeal(who, sum, kind == SELL_LAST);
                    toManager = books.filled[MANAGERS_PART];
                    toInvestors = books.filled[INVESTORS_PART];
                    handOut(who);
                    return toManager;
                case MARK:
                    return books.remark(who, sum);
                case WAIT:
                    for (int n = 0; n < sum; n++) {
                        passQuarter();
                    }
                    return books.quarter;
                case FAIL:
                    return register.setFailed(who);
                case MOVE:
                    return register.handOver(who, other, sum);
                default:
                    toInvestors = books.settle();
                    handOut(NONE);
                    return toInvestors;
            }
        }

        /** An act of the journal is done, if it can be. */
        boolean follow(Journal journal, int k) {
            int row = k * ROW;
            int kind = journal.rows[row + KIND];
            int who = journal.rows[row + WHO];
            int sum = journal.rows[row + SUM];
            int other = journal.rows[row + OTHER];
            boolean can = canBe(kind, who, sum, other);
            if (can) {
                perform(kind, who, sum, other);
            }
            return can;
        }

        long fullFee() {
            return books.terms[FEE] * register.allOf(register.committed) / 10000;
        }

        void passQuarter() {
            long fee = Math.min(fullFee(), register.allOf(register.uncalled));
            if (fee > 0) {
                register.weighUncalled(NONE);
                takeIn(fee);
            }
            if (traced) {
                trace.fees[books.quarter] = fee;
            }
            books.pass(fee);
        }

        void takeIn(long sum) {
            register.split(sum);
            for (int i = 0; i < register.size; i++) {
                int part = (int) register.parts[i];
                register.uncalled[i] -= part;
                register.paid[i] += part;
                if (traced) {
                    trace.add(i, books.quarter, -part);
                }
            }
        }

        void handOut(int which) {
            register.gotTogether += toInvestors;
            if (!traced || toInvestors == 0) {
                return;
            }
            register.weighFor(which);
            register.split(toInvestors);
            for (int i = 0; i < register.size; i++) {
                register.got[i] += register.parts[i];
                trace.add(i, books.quarter, register.parts[i]);
            }
        }
    }

    /** The search for the order of sales that gives the manager most. */
    private static final class Orders {
        final Books[] levels = new Books[MOST_DEALS + 1];
        final int[] path = new int[MOST_DEALS];
        final int[] bestPath = new int[MOST_DEALS];
        int length;
        long best;

        Orders() {
            for (int level = 0; level <= MOST_DEALS; level++) {
                levels[level] = new Books();
            }
        }

        void search(Books start) {
            levels[0].copyFrom(start);
            length = Integer.bitCount(start.openDeals());
            best = NONE;
            tryFrom(0);
        }

        /** Orders come by the lesser numbers first, so the first one that gives most is kept. */
        void tryFrom(int depth) {
            Books here = levels[depth];
            if (depth >= length || depth >= MOST_DEALS) {
                if (here.purse[KEPT] > best) {
                    best = here.purse[KEPT];
                    System.arraycopy(path, 0, bestPath, 0, MOST_DEALS);
                }
                return;
            }
            Books next = levels[depth + 1];
            for (int d = 0; d < here.dealCount; d++) {
                if (here.isOpen(d)) {
                    next.copyFrom(here);
                    next.sellDeal(d, here.dealRows[d * WIDTH + MARKED], true);
                    path[depth] = d;
                    tryFrom(depth + 1);
                }
            }
        }
    }
}
