import java.util.NoSuchElementException;

/** Leads money from firm to firm over lands with treaties between them. */
public final class TreatyRouter {
    public static final int NONE = -1;
    public static final int HIDDEN = -1000000;

    private static final int MOST_LANDS = 6;
    private static final int MOST_FIRMS = 8;
    private static final int MOST_LINKS = 16;
    private static final int MOST_TREATIES = 12;
    private static final int MOST_SCRIPTS = 4;
    private static final int MOST_STEPS = 12;
    private static final int MOST_BYTES = 400;
    private static final int MOST_LETTERS = 8;
    private static final int MOST_HOPS = 5;
    private static final int MOST_AMOUNT = 1000000;
    private static final int MOST_CREDIT = 1000000000;
    private static final int MOST_STAFF = 99;
    private static final int MOST_SHARE = 100;
    private static final int MOST_PASSING = 20;
    private static final int MOST_DRAWN = 40;
    private static final int LAST_TOLD_YEAR = 99;
    private static final int LAST_YEAR = 199;
    private static final int YEARS_AHEAD = 20;
    private static final int USUAL_YEAR = 50;
    private static final int ENOUGH_HALVINGS = 20;
    private static final int THOUSAND = 1000;
    private static final int UNTAXED_SHARE = 25;

    private static final int DIVIDENDS = 0;
    private static final int INTEREST = 1;

    private static final int ACT_PAY = 0;
    private static final int ACT_PASS = 1;
    private static final int ACT_STAFF = 2;
    private static final int ACT_OWN = 3;
    private static final int ACT_LEND = 4;

    private static final int NO_SUCH = 0;
    private static final int OUT_OF_BOUNDS = 1;
    private static final int IS_SO = 2;
    private static final int TOO_MUCH = 3;
    private static final int REASONS = 4;

    private static final Word[] WORDS = Word.values();

    private final Reader reader = new Reader();
    private final Script[] scripts = new Script[MOST_SCRIPTS + 1];
    private final Finder finder = new Finder();
    private final Acts acts = new Acts(finder);
    private final History history = new History();
    private final Log acted = new Log();
    private final Log imagedLog = new Log();
    private final StringBuilder told = new StringBuilder();
    private final int[] refused = new int[REASONS];
    private final int[] drawnStep = new int[Script.PARTS];
    private final State now;
    private final State scratch;
    private final State imaged;
    private Book book = new Book();
    private Book draft = new Book();
    private int scriptCount = 0;
    private boolean hasImage = false;
    private long drawn = 0;

    public TreatyRouter() {
        now = new State(book);
        scratch = new State(book);
        imaged = new State(book);
        // One more than there may be: a TAPE is read into the free one behind the last.
        for (int i = 0; i < scripts.length; i++) {
            scripts[i] = new Script();
        }
    }

    // ---- texts

    public int feed(int a, int b, int c, int d, int e) {
        int more = Reader.bytesIn(a) + Reader.bytesIn(b) + Reader.bytesIn(c) + Reader.bytesIn(d) + Reader.bytesIn(e);
        if (reader.length + more > MOST_BYTES) {
            return NONE;
        }
        reader.put(a);
        reader.put(b);
        reader.put(c);
        reader.put(d);
        reader.put(e);
        return reader.length;
    }

    public boolean end(int n) {
        if (n < 0 || n > reader.length) {
            return false;
        }
        reader.length = n;
        return true;
    }

    public int fault(int sort) {
        if (sort == 0) {
            draft.readFrom(reader, scratch);
            return reader.fault;
        }
        if (sort == 1) {
            scripts[scriptCount].readFrom(reader);
            return reader.fault;
        }
        return -2;
    }

    public int text(int sort) {
        if (sort == 0) {
            draft.readFrom(reader, scratch);
            return reader.fault == NONE ? openDraft() : NONE;
        }
        if (sort == 1 && scriptCount < MOST_SCRIPTS) {
            scripts[scriptCount].readFrom(reader);
            return reader.fault == NONE ? keepScript() : NONE;
        }
        return NONE;
    }

    private int openDraft() {
        Book old = book;
        book = draft;
        draft = old;
        scratch.book = book;
        now.copyFrom(scratch);
        history.forget();
        acted.forget();
        hasImage = false;
        reader.length = 0;
        return book.firms;
    }

    private int keepScript() {
        reader.length = 0;
        scriptCount++;
        return scriptCount - 1;
    }

    // ---- what there is

    public int land(int land, int what) {
        if (!book.hasLand(land) || what < 0 || what > 3) {
            return NONE;
        }
        return what == 3 ? now.row[State.TAKEN + land] : book.laws[what * MOST_LANDS + land];
    }

    public int firm(int firm, int what) throws NoSuchElementException {
        if (!book.hasFirm(firm) || what < 0 || what > 4) {
            throw new NoSuchElementException();
        }
        switch (what) {
            case 0:
                return book.landOf[firm];
            case 1:
                return now.row[State.STAFF + firm];
            case 2:
                return now.row[State.CREDIT + firm];
            case 3:
                return now.row[State.GOT + firm];
            default:
                return now.linksOf(firm);
        }
    }

    public int name(int sort, int number, int i) {
        if (i < 0 || i >= MOST_LETTERS) {
            return NONE;
        }
        if (sort == 0 && book.hasLand(number)) {
            return Reader.letterOf(book.landNames[number], i);
        }
        if (sort == 1 && book.hasFirm(number)) {
            return Reader.letterOf(book.firmNames[number], i);
        }
        return NONE;
    }

    public int link(int k, int what) {
        if (!now.hasLink(k) || what < 0 || what >= State.LINK_PARTS) {
            return NONE;
        }
        return now.row[State.SORT + what * MOST_LINKS + k];
    }

    public int treaty(int land, int other, int year, int what) {
        if (!book.hasLand(land) || !book.hasLand(other) || !isYear(year) || what < 0 || what >= Book.NUMBERS) {
            return NONE;
        }
        int t = book.treatyOf(land, other, year);
        return t == NONE ? NONE : book.treaties[Book.FROM + what * MOST_TREATIES + t];
    }

    public int hop(int sort, int from, int to, int owner, int what) {
        if (!isSort(sort) || !book.hasFirm(from) || !book.hasFirm(to) || !book.hasFirm(owner)) {
            return NONE;
        }
        if (what < 0 || what > 1) {
            return NONE;
        }
        finder.findTreaties(now);
        finder.judgeHops(now, sort, owner);
        int at = from * MOST_FIRMS + to;
        if (finder.linkAt[at] == NONE) {
            return NONE;
        }
        return what == 0 ? finder.rateAt[at] : finder.articleAt[at];
    }

    public int all(int what) {
        if (!hasBook()) {
            return HIDDEN;
        }
        switch (what) {
            case 0:
                return now.row[State.YEAR];
            case 1:
                return now.sum(State.CREDIT, book.firms);
            case 2:
                return now.sum(State.TAKEN, book.lands);
            case 3:
                return now.sum(State.GOT, book.firms);
            case 4:
                return now.row[State.LINKS];
            case 5:
                return book.treatiesIn(now.row[State.YEAR]);
            case 6:
                return now.firstOfMost(State.STAFF, book.firms);
            case 7:
                return now.firstOfMost(State.CREDIT, book.firms);
            case 8:
                return now.laterLinks();
            default:
                return HIDDEN;
        }
    }

    public int count(int what) {
        switch (what) {
            case 0:
                return book.firms;
            case 1:
                return scriptCount;
            case 2:
                return reader.length;
            case 3:
                return acted.size();
            case 4:
                return history.held;
            case 5:
                return book.lands;
            case 6:
                return now.row[State.LINKS];
            default:
                return HIDDEN;
        }
    }

    private boolean hasBook() {
        return book.firms > 0;
    }

    private static boolean isSort(int sort) {
        return sort == DIVIDENDS || sort == INTEREST;
    }

    private static boolean isAmount(int amount) {
        return amount >= 1 && amount <= MOST_AMOUNT;
    }

    private static boolean isYear(int year) {
        return year >= 0 && year <= LAST_YEAR;
    }

    // ---- the best way

    private boolean isAsked(int sort, int from, int to, int amount) {
        return isSort(sort) && book.hasFirm(from) && book.hasFirm(to) && from != to && isAmount(amount);
    }

    private boolean isFound(int sort, int from, int to, int amount) {
        return isAsked(sort, from, to, amount) && finder.find(now, sort, from, to, amount, 0);
    }

    /** What ARRIVES as things are in a state, or NONE; what is asked must have been looked at. */
    private int arrivesIn(State state, int sort, int from, int to, int amount) {
        return finder.find(state, sort, from, to, amount, 0) ? finder.best.arrives : NONE;
    }

    public int best(int sort, int from, int to, int amount, int what) {
        if (what < 0 || what > 3 || !isFound(sort, from, to, amount)) {
            return NONE;
        }
        switch (what) {
            case 0:
                return finder.best.arrives;
            case 1:
                return finder.best.hops;
            case 2:
                return finder.best.withheld;
            default:
                return finder.best.duePaid();
        }
    }

    public int stop(int sort, int from, int to, int amount, int i, int what) {
        if (i < 0 || what < 0 || what > 4 || !isFound(sort, from, to, amount)) {
            return NONE;
        }
        return i < finder.best.hops ? finder.best.row[what * MOST_HOPS + i] : NONE;
    }

    public int spell(int sort, int from, int to, int amount, int i) {
        if (i < NONE || !isFound(sort, from, to, amount)) {
            return NONE;
        }
        told.setLength(0);
        finder.best.tell(told, book);
        if (i == NONE) {
            return told.length();
        }
        return i < told.length() ? (int) told.charAt(i) : NONE;
    }

    public int loops(int sort, int from, int to) {
        if (!isAsked(sort, from, to, 1)) {
            return NONE;
        }
        finder.find(now, sort, from, to, 1, 0);
        return finder.ways;
    }

    public int least(int sort, int from, int to, int amount, int what) {
        if (what < 0 || what > 2 || !isAsked(sort, from, to, amount)) {
            return NONE;
        }
        if (!finder.findSparing(now, sort, from, to, amount)) {
            return NONE;
        }
        if (what == 0) {
            return finder.best.withheld;
        }
        return what == 1 ? finder.best.hops : finder.best.arrives;
    }

    public int direct(int sort, int from, int to, int amount) {
        if (!isAsked(sort, from, to, amount)) {
            return NONE;
        }
        finder.findTreaties(now);
        finder.judgeHops(now, sort, to);
        int at = from * MOST_FIRMS + to;
        return finder.linkAt[at] == NONE ? NONE : amount - amount * finder.rateAt[at] / THOUSAND;
    }

    public int take(int sort, int from, int to, int amount, int land) {
        if (!book.hasLand(land) || !isFound(sort, from, to, amount)) {
            return NONE;
        }
        return finder.best.takenBy(book, land);
    }

    // ---- what it would be

    public int asOf(int sort, int from, int to, int amount, int year, int what) {
        if (what < 0 || what > 1 || !isYear(year) || !isAsked(sort, from, to, amount)) {
            return NONE;
        }
        scratch.copyFrom(now);
        scratch.row[State.YEAR] = year;
        int arrives = arrivesIn(scratch, sort, from, to, amount);
        return what == 0 || arrives == NONE ? arrives : finder.best.hops;
    }

    public int hire(int sort, int from, int to, int amount, int firm) {
        if (!book.hasFirm(firm) || !isAsked(sort, from, to, amount)) {
            return NONE;
        }
        scratch.copyFrom(now);
        int most = NONE;
        int fewest = NONE;
        for (int n = 0; n <= MOST_STAFF; n++) {
            // Between two numbers that TREATIES ask for nothing changes.
            if (n == 0 || book.asksForStaff(n)) {
                scratch.row[State.STAFF + firm] = n;
                int arrives = arrivesIn(scratch, sort, from, to, amount);
                if (arrives > most) {
                    most = arrives;
                    fewest = n;
                }
            }
        }
        return fewest;
    }

    public int without(int sort, int from, int to, int amount, int firm) {
        if (!book.hasFirm(firm) || firm == from || firm == to || !isAsked(sort, from, to, amount)) {
            return NONE;
        }
        return finder.find(now, sort, from, to, amount, 1 << firm) ? finder.best.arrives : NONE;
    }

    public int key(int sort, int from, int to, int amount) {
        if (!isFound(sort, from, to, amount)) {
            return NONE;
        }
        int fewest = MOST_AMOUNT + 1;
        int found = NONE;
        for (int firm = 0; firm < book.firms; firm++) {
            if (firm != from && firm != to) {
                boolean goes = finder.find(now, sort, from, to, amount, 1 << firm);
                int arrives = goes ? finder.best.arrives : NONE;
                if (arrives < fewest) {
                    fewest = arrives;
                    found = firm;
                }
            }
        }
        return found;
    }

    public int lapsed(int sort, int from, int to, int amount, int land, int other) {
        if (!book.hasLand(land) || !book.hasLand(other) || land == other || !isAsked(sort, from, to, amount)) {
            return NONE;
        }
        scratch.copyFrom(now);
        scratch.lapse(land, other);
        return arrivesIn(scratch, sort, from, to, amount);
    }

    public int soon(int sort, int from, int to, int amount) {
        if (!isAsked(sort, from, to, amount)) {
            return NONE;
        }
        scratch.copyFrom(now);
        int most = NONE;
        int first = NONE;
        // AS OF no YEAR is asked that can't come.
        int last = Math.min(now.row[State.YEAR] + YEARS_AHEAD, LAST_YEAR);
        for (int year = now.row[State.YEAR]; year <= last; year++) {
            scratch.row[State.YEAR] = year;
            int arrives = arrivesIn(scratch, sort, from, to, amount);
            if (arrives > most) {
                most = arrives;
                first = year;
            }
        }
        return first;
    }

    public int twice(int sort, int from, int to, int amount) {
        if (!isFound(sort, from, to, amount)) {
            return NONE;
        }
        scratch.copyFrom(now);
        int first = finder.best.arrives;
        acts.payByBest(scratch, to);
        return first + arrivesIn(scratch, sort, from, to, amount);
    }

    public int gross(int sort, int from, int to, int sum) {
        if (!isAsked(sort, from, to, sum) || arrivesIn(now, sort, from, to, MOST_AMOUNT) < sum) {
            return NONE;
        }
        // Of one more never less ARRIVES, as each cut takes one more at most; and never more than was paid.
        int low = sum;
        int high = MOST_AMOUNT;
        for (int halved = 0; low < high && halved < ENOUGH_HALVINGS; halved++) {
            int middle = low + (high - low) / 2;
            if (arrivesIn(now, sort, from, to, middle) >= sum) {
                high = middle;
            } else {
                low = middle + 1;
            }
        }
        return low;
    }

    public int worth(int sort, int from, int to, int amount, int k) {
        if (!now.hasLink(k) || !isFound(sort, from, to, amount)) {
            return NONE;
        }
        int whole = finder.best.arrives;
        scratch.copyFrom(now);
        scratch.removeLink(k);
        return whole - Math.max(0, arrivesIn(scratch, sort, from, to, amount));
    }

    // ---- acts

    public int pay(int sort, int from, int to, int amount) {
        return actByHand(ACT_PAY, sort, from, to, amount);
    }

    public int pass(int n) {
        return actByHand(ACT_PASS, n, NONE, NONE, NONE);
    }

    public int staff(int firm, int n) {
        return actByHand(ACT_STAFF, firm, n, NONE, NONE);
    }

    public int own(int firm, int of, int share) {
        return actByHand(ACT_OWN, firm, of, share, NONE);
    }

    public int lend(int firm, int to) {
        return actByHand(ACT_LEND, firm, to, NONE, NONE);
    }

    private int actByHand(int act, int a, int b, int c, int d) {
        int reason = acts.reasonAgainst(now, act, a, b, c, d);
        if (reason != NONE) {
            refused[reason]++;
            return NONE;
        }
        return actNow(act, a, b, c);
    }

    /** A STEP, the row's at this place, as an ACT that no hand does: STATUS does not count it where it can't be. */
    private boolean actIfItCanBe(int[] row, int at) {
        if (acts.reasonAgainst(now, row[at], row[at + 1], row[at + 2], row[at + 3], row[at + 4]) != NONE) {
            return false;
        }
        actNow(row[at], row[at + 1], row[at + 2], row[at + 3]);
        return true;
    }

    private int actNow(int act, int a, int b, int c) {
        history.keep(now);
        int number = acts.carryOut(now, act, a, b, c);
        acted.add(act, number, Acts.firmOf(act, a, c));
        return number;
    }

    public int years(int n, long seed) {
        if (!hasBook() || n < 1 || n > MOST_DRAWN) {
            return NONE;
        }
        drawn = seed;
        for (int i = 0; i < n; i++) {
            drawStep(draw(8));
            actIfItCanBe(drawnStep, 0);
        }
        return now.row[State.YEAR];
    }

    private void drawStep(int kind) {
        if (kind <= 3) {
            drawnStep[0] = ACT_PAY;
            drawnStep[1] = draw(2);
            drawnStep[2] = draw(book.firms);
            drawnStep[3] = draw(book.firms);
            drawnStep[4] = draw(1000) + 1;
            return;
        }
        if (kind == 4) {
            drawnStep[0] = ACT_PASS;
            drawnStep[1] = draw(5) + 1;
            return;
        }
        drawnStep[1] = draw(book.firms);
        if (kind == 5) {
            drawnStep[0] = ACT_STAFF;
            drawnStep[2] = draw(100);
            return;
        }
        drawnStep[0] = kind == 6 ? ACT_OWN : ACT_LEND;
        drawnStep[2] = draw(book.firms);
        drawnStep[3] = kind == 6 ? draw(101) : NONE;
    }

    private int draw(int j) {
        drawn = drawn * 6364136223846793005L + 1442695040888963407L;
        return j > 0 ? (int) ((drawn >>> 33) % j) : 0;
    }

    public int status(int what) {
        return what >= 0 && what < REASONS ? refused[what] : NONE;
    }

    public int undo() {
        if (!history.giveBack(now)) {
            return NONE;
        }
        acted.dropLatest();
        return history.held;
    }

    public int log(int i, int what) {
        if (i < 0 || i >= acted.size() || what < 0 || what >= Log.PARTS) {
            return HIDDEN;
        }
        return acted.part(i, what);
    }

    // ---- scripts

    public int step(int script, int i, int what) {
        if (!hasScript(script) || i < 0 || i >= scripts[script].steps || what < 0 || what >= Script.PARTS) {
            return HIDDEN;
        }
        return scripts[script].row[i * Script.PARTS + what];
    }

    public int run(int script, int what) {
        if (!hasScript(script) || !hasBook() || what < 0 || what > 1) {
            return HIDDEN;
        }
        int done = runApart(scripts[script]);
        if (what == 1) {
            return scratch.sum(State.TAKEN, book.lands);
        }
        return done == scripts[script].steps ? NONE : done;
    }

    private int runApart(Script s) {
        scratch.copyFrom(now);
        for (int i = 0; i < s.steps; i++) {
            int at = i * Script.PARTS;
            int act = s.row[at];
            int a = s.row[at + 1];
            int b = s.row[at + 2];
            int c = s.row[at + 3];
            if (acts.reasonAgainst(scratch, act, a, b, c, s.row[at + 4]) != NONE) {
                return i;
            }
            acts.carryOut(scratch, act, a, b, c);
        }
        return s.steps;
    }

    public int perform(int script) {
        if (!hasScript(script) || !hasBook()) {
            return NONE;
        }
        Script s = scripts[script];
        for (int i = 0; i < s.steps; i++) {
            if (!actIfItCanBe(s.row, i * Script.PARTS)) {
                return i;
            }
        }
        return s.steps;
    }

    private boolean hasScript(int script) {
        return script >= 0 && script < scriptCount;
    }

    // ---- images

    public int image() {
        if (!hasBook()) {
            return NONE;
        }
        imaged.copyFrom(now);
        imagedLog.copyFrom(acted);
        hasImage = true;
        return now.row[State.YEAR];
    }

    public int back() {
        if (!hasImage) {
            return NONE;
        }
        now.copyFrom(imaged);
        acted.copyFrom(imagedLog);
        history.forget();
        return now.row[State.YEAR];
    }

    // ---- the classes inside

    /** The WORDS that no NAME may be; those of STEPS know their ACT and how many numbers follow. */
    private enum Word {
        LAND("land", NONE, 0),
        FIRM("firm", NONE, 0),
        OWNS("owns", NONE, 0),
        LENDS("lends", NONE, 0),
        TREATY("treaty", NONE, 0),
        ENDS("ends", NONE, 0),
        YEAR("year", NONE, 0),
        PAY("pay", ACT_PAY, 4),
        PASS("pass", ACT_PASS, 1),
        STAFF("staff", ACT_STAFF, 2),
        OWN("own", ACT_OWN, 3),
        LEND("lend", ACT_LEND, 2);

        final long code;
        final int act;
        final int numbers;

        Word(String letters, int act, int numbers) {
            long sum = 0;
            for (int i = 0; i < letters.length(); i++) {
                sum |= Reader.codeOf(letters.charAt(i), i);
            }
            this.code = sum;
            this.act = act;
            this.numbers = numbers;
        }

        /** The WORD with this code, or null. */
        static Word withCode(long code) {
            for (Word w : WORDS) {
                if (w.code == code) {
                    return w;
                }
            }
            return null;
        }
    }

    /** The TAPE, read part by part; behind the first FAULT all reading stands still. */
    private static final class Reader {
        private static final int BITS = 5;
        private static final int BLANK = 32;
        private static final int WORTH_ENOUGH = 1000000;

        int length = 0;
        int fault = NONE;
        /** Where the part read last begins. */
        int start = 0;
        private int at = 0;
        private final int[] tape = new int[MOST_BYTES];

        static int bytesIn(int four) {
            int n = 0;
            for (int shift = 0; shift < 32; shift += 8) {
                n += (four >>> shift & 255) == 0 ? 0 : 1;
            }
            return n;
        }

        void put(int four) {
            for (int shift = 24; shift >= 0; shift -= 8) {
                int b = four >>> shift & 255;
                if (b != 0 && length < MOST_BYTES) {
                    tape[length] = b;
                    length++;
                }
            }
        }

        /** A WORD is kept as one number, so that two are compared at once and none makes an object. */
        static long codeOf(int letter, int i) {
            return (long) (letter - 'a' + 1) << BITS * i;
        }

        static int letterOf(long code, int i) {
            int letter = (int) (code >>> BITS * i & 31);
            return letter == 0 ? NONE : letter + 'a' - 1;
        }

        void begin() {
            at = 0;
            start = 0;
            fault = NONE;
        }

        void fail(int where) {
            if (fault == NONE) {
                fault = where;
            }
        }

        private void skipBlanks() {
            while (at < length && tape[at] == BLANK) {
                at++;
            }
            start = at;
        }

        /** The code of the WORD that stands next. */
        long nextWord() {
            if (fault != NONE) {
                return 0;
            }
            skipBlanks();
            long code = 0;
            while (at < length && tape[at] >= 'a' && tape[at] <= 'z') {
                if (at - start < MOST_LETTERS) {
                    code |= codeOf(tape[at], at - start);
                }
                at++;
            }
            if (at == start || at - start > MOST_LETTERS) {
                fail(start);
            }
            return code;
        }

        int nextNumber(int low, int high) {
            if (fault != NONE) {
                return low;
            }
            skipBlanks();
            int worth = 0;
            while (at < length && tape[at] >= '0' && tape[at] <= '9') {
                worth = Math.min(worth * 10 + tape[at] - '0', WORTH_ENOUGH);
                at++;
            }
            if (at == start || worth < low || worth > high) {
                fail(start);
                return low;
            }
            return worth;
        }

        /** Whether a ; leads on to one LINE, STEP more. */
        boolean goesOn() {
            if (fault != NONE) {
                return false;
            }
            skipBlanks();
            if (at >= length) {
                return false;
            }
            if (tape[at] != ';') {
                fail(at);
                return false;
            }
            at++;
            return true;
        }
    }

    /** What a BOOK tells and no ACT changes; laws and treaties stand in columns, one for each part. */
    private static final class Book {
        static final int LAWS = 3;
        static final int TAX = 2 * MOST_LANDS;
        static final int FROM = 0;
        static final int LOW = MOST_TREATIES;
        static final int HIGH = 2 * MOST_TREATIES;
        static final int LOW_INTEREST = 3 * MOST_TREATIES;
        static final int SHARE = 4 * MOST_TREATIES;
        static final int YEARS = 5 * MOST_TREATIES;
        static final int STAFF = 6 * MOST_TREATIES;
        static final int OWNER = 7 * MOST_TREATIES;
        static final int NUMBERS = 8;
        private static final int ONE = 8 * MOST_TREATIES;
        private static final int OTHER = 9 * MOST_TREATIES;
        private static final int ENDS = 10 * MOST_TREATIES;
        private static final int COLUMNS = 11;
        private static final int[] BOUNDS = {99, 1000, 1000, 1000, 100, 20, 99, 2};

        final long[] landNames = new long[MOST_LANDS];
        final long[] firmNames = new long[MOST_FIRMS];
        final int[] laws = new int[MOST_LANDS * LAWS];
        final int[] landOf = new int[MOST_FIRMS];
        final int[] treaties = new int[MOST_TREATIES * COLUMNS];
        int lands = 0;
        int firms = 0;
        private int treatyCount = 0;
        private boolean yearTold = false;

        boolean hasLand(int land) {
            return land >= 0 && land < lands;
        }

        boolean hasFirm(int firm) {
            return firm >= 0 && firm < firms;
        }

        /** The number of the TREATY of two LANDS in a YEAR, or NONE. */
        int treatyOf(int land, int other, int year) {
            int found = NONE;
            for (int t = 0; t < treatyCount; t++) {
                int one = treaties[ONE + t];
                int two = treaties[OTHER + t];
                int from = treaties[FROM + t];
                boolean ofBoth = one == land && two == other || one == other && two == land;
                if (ofBoth && from <= year && (found == NONE || from >= treaties[FROM + found])) {
                    found = t;
                }
            }
            return found == NONE || treaties[ENDS + found] == 1 ? NONE : found;
        }

        int treatiesIn(int year) {
            int n = 0;
            for (int land = 0; land < lands; land++) {
                for (int other = land + 1; other < lands; other++) {
                    n += treatyOf(land, other, year) == NONE ? 0 : 1;
                }
            }
            return n;
        }

        boolean asksForStaff(int n) {
            for (int t = 0; t < treatyCount; t++) {
                if (treaties[STAFF + t] == n) {
                    return true;
                }
            }
            return false;
        }

        /** Reads the TAPE as a BOOK, what ACTS change into the state; the reader has the FAULT then. */
        void readFrom(Reader r, State state) {
            lands = 0;
            firms = 0;
            treatyCount = 0;
            yearTold = false;
            state.clear();
            r.begin();
            boolean more = true;
            for (int lines = 0; more && lines <= MOST_BYTES; lines++) {
                readLine(r, state);
                more = r.goesOn();
            }
            if (firms == 0) {
                r.fail(r.length);
            }
        }

        private void readLine(Reader r, State state) {
            Word word = Word.withCode(r.nextWord());
            if (word == null) {
                r.fail(r.start);
                return;
            }
            switch (word) {
                case LAND:
                    readLand(r);
                    break;
                case FIRM:
                    readFirm(r, state);
                    break;
                case OWNS:
                    readLink(r, state, DIVIDENDS);
                    break;
                case LENDS:
                    readLink(r, state, INTEREST);
                    break;
                case TREATY:
                    readTreaty(r, NUMBERS, 0);
                    break;
                case ENDS:
                    readTreaty(r, 1, 1);
                    break;
                case YEAR:
                    readYear(r, state);
                    break;
                default:
                    r.fail(r.start);
                    break;
            }
        }

        private void readLand(Reader r) {
            if (lands >= MOST_LANDS) {
                r.fail(r.start);
                return;
            }
            landNames[lands] = newName(r);
            for (int i = 0; i < LAWS; i++) {
                laws[i * MOST_LANDS + lands] = r.nextNumber(0, THOUSAND);
            }
            if (r.fault == NONE) {
                lands++;
            }
        }

        private void readFirm(Reader r, State state) {
            if (firms >= MOST_FIRMS) {
                r.fail(r.start);
                return;
            }
            firmNames[firms] = newName(r);
            landOf[firms] = toldName(r, landNames, lands, NONE);
            state.row[State.STAFF + firms] = r.nextNumber(0, MOST_STAFF);
            if (r.fault == NONE) {
                firms++;
            }
        }

        private void readLink(Reader r, State state, int sort) {
            if (state.row[State.LINKS] >= MOST_LINKS) {
                r.fail(r.start);
                return;
            }
            int first = toldName(r, firmNames, firms, NONE);
            int second = toldName(r, firmNames, firms, first);
            if (state.linkOf(sort, first, second) != NONE) {
                r.fail(r.start);
            }
            int share = sort == DIVIDENDS ? r.nextNumber(1, MOST_SHARE) : 0;
            int since = r.nextNumber(0, LAST_TOLD_YEAR);
            if (r.fault == NONE) {
                state.addLink(sort, first, second, share, since);
            }
        }

        private void readTreaty(Reader r, int numbers, int ends) {
            if (treatyCount >= MOST_TREATIES) {
                r.fail(r.start);
                return;
            }
            int one = toldName(r, landNames, lands, NONE);
            treaties[ONE + treatyCount] = one;
            treaties[OTHER + treatyCount] = toldName(r, landNames, lands, one);
            treaties[ENDS + treatyCount] = ends;
            for (int i = 0; i < NUMBERS; i++) {
                treaties[i * MOST_TREATIES + treatyCount] = i < numbers ? r.nextNumber(0, BOUNDS[i]) : 0;
            }
            if (r.fault == NONE) {
                treatyCount++;
            }
        }

        private void readYear(Reader r, State state) {
            if (yearTold) {
                r.fail(r.start);
            }
            yearTold = true;
            state.row[State.YEAR] = r.nextNumber(0, LAST_TOLD_YEAR);
        }

        private long newName(Reader r) {
            long code = r.nextWord();
            boolean isTold = numberOf(code, landNames, lands) != NONE || numberOf(code, firmNames, firms) != NONE;
            if (isTold || Word.withCode(code) != null) {
                r.fail(r.start);
            }
            return code;
        }

        /** The number of a NAME that must have been told, and not be that of another number. */
        private static int toldName(Reader r, long[] names, int count, int unlike) {
            int number = numberOf(r.nextWord(), names, count);
            if (number == NONE || number == unlike) {
                r.fail(r.start);
            }
            return number;
        }

        private static int numberOf(long code, long[] names, int count) {
            for (int i = 0; i < count; i++) {
                if (names[i] == code) {
                    return i;
                }
            }
            return NONE;
        }
    }

    /** The STEPS of a SCRIPT: of each its ACT and four numbers, NONE where there are fewer. */
    private static final class Script {
        static final int PARTS = 5;
        private static final int MOST_TOLD = 9999;

        final int[] row = new int[MOST_STEPS * PARTS];
        int steps = 0;

        void readFrom(Reader r) {
            steps = 0;
            r.begin();
            boolean more = true;
            for (int i = 0; more && i < MOST_STEPS; i++) {
                readStep(r, i * PARTS);
                steps = i + 1;
                more = r.goesOn();
            }
            if (more) {
                r.fail(r.start);
            }
        }

        private void readStep(Reader r, int at) {
            Word word = Word.withCode(r.nextWord());
            if (word == null || word.act == NONE) {
                r.fail(r.start);
                return;
            }
            row[at] = word.act;
            for (int i = 1; i < PARTS; i++) {
                row[at + i] = i <= word.numbers ? r.nextNumber(0, MOST_TOLD) : NONE;
            }
        }
    }

    /** All that ACTS change but the LOG, in one row, so that it is kept and given back by one copy. */
    private static final class State {
        static final int YEAR = 0;
        static final int LINKS = 1;
        static final int STAFF = 2;
        static final int CREDIT = STAFF + MOST_FIRMS;
        static final int GOT = CREDIT + MOST_FIRMS;
        static final int TAKEN = GOT + MOST_FIRMS;
        static final int SORT = TAKEN + MOST_LANDS;
        static final int FIRST = SORT + MOST_LINKS;
        static final int SECOND = FIRST + MOST_LINKS;
        static final int SHARE = SECOND + MOST_LINKS;
        static final int SINCE = SHARE + MOST_LINKS;
        static final int SIZE = SINCE + MOST_LINKS;
        static final int LINK_PARTS = 5;

        final int[] row = new int[SIZE];
        Book book;
        /** Two LANDS whose TREATY is thought away, NONE both where none is. */
        int lapsedLand = NONE;
        int lapsedOther = NONE;

        State(Book book) {
            this.book = book;
        }

        void clear() {
            for (int i = 0; i < SIZE; i++) {
                row[i] = 0;
            }
            row[YEAR] = USUAL_YEAR;
        }

        void copyFrom(State other) {
            System.arraycopy(other.row, 0, row, 0, SIZE);
            book = other.book;
            lapse(NONE, NONE);
        }

        void lapse(int land, int other) {
            lapsedLand = land;
            lapsedOther = other;
        }

        boolean hasLink(int k) {
            return k >= 0 && k < row[LINKS];
        }

        int linkOf(int sort, int first, int second) {
            for (int k = 0; k < row[LINKS]; k++) {
                if (row[SORT + k] == sort && row[FIRST + k] == first && row[SECOND + k] == second) {
                    return k;
                }
            }
            return NONE;
        }

        int linksOf(int firm) {
            int n = 0;
            for (int k = 0; k < row[LINKS]; k++) {
                n += row[FIRST + k] == firm || row[SECOND + k] == firm ? 1 : 0;
            }
            return n;
        }

        int laterLinks() {
            int n = 0;
            for (int k = 0; k < row[LINKS]; k++) {
                n += row[SINCE + k] > row[YEAR] ? 1 : 0;
            }
            return n;
        }

        void addLink(int sort, int first, int second, int share, int since) {
            int k = row[LINKS];
            if (k >= MOST_LINKS) {
                return;
            }
            row[SORT + k] = sort;
            row[FIRST + k] = first;
            row[SECOND + k] = second;
            row[SHARE + k] = share;
            row[SINCE + k] = since;
            row[LINKS] = k + 1;
        }

        void removeLink(int k) {
            if (!hasLink(k)) {
                return;
            }
            for (int i = k; i + 1 < row[LINKS]; i++) {
                row[SORT + i] = row[SORT + i + 1];
                row[FIRST + i] = row[FIRST + i + 1];
                row[SECOND + i] = row[SECOND + i + 1];
                row[SHARE + i] = row[SHARE + i + 1];
                row[SINCE + i] = row[SINCE + i + 1];
            }
            row[LINKS]--;
        }

        int sum(int at, int count) {
            int sum = 0;
            for (int i = 0; i < count; i++) {
                sum += row[at + i];
            }
            return sum;
        }

        int firstOfMost(int at, int count) {
            int found = 0;
            for (int i = 1; i < count; i++) {
                if (row[at + i] > row[at + found]) {
                    found = i;
                }
            }
            return found;
        }
    }

    /** A WAY, in columns by HOPS: where each leads, what is paid and kept back, what that makes of the STOP. */
    private static final class Way {
        static final int FIRM = 0;
        static final int RATE = MOST_HOPS;
        static final int ARTICLE = 2 * MOST_HOPS;
        static final int PAID = 3 * MOST_HOPS;
        static final int HELD = 4 * MOST_HOPS;
        static final int DUE = 5 * MOST_HOPS;
        static final int CREDIT = 6 * MOST_HOPS;
        static final int SIZE = 7 * MOST_HOPS;

        final int[] row = new int[SIZE];
        int from = 0;
        int hops = 0;
        int arrives = 0;
        int withheld = 0;

        int duePaid() {
            int sum = 0;
            for (int i = 0; i < hops; i++) {
                sum += row[DUE + i];
            }
            return sum;
        }

        int takenBy(Book book, int land) {
            int sum = 0;
            int payer = from;
            for (int i = 0; i < hops; i++) {
                int payee = row[FIRM + i];
                sum += book.landOf[payer] == land ? row[HELD + i] : 0;
                sum += book.landOf[payee] == land ? row[DUE + i] : 0;
                payer = payee;
            }
            return sum;
        }

        void tell(StringBuilder text, Book book) {
            putName(text, book.firmNames[from]);
            for (int i = 0; i < hops; i++) {
                int rate = row[RATE + i];
                text.append(" >").append(rate / 10);
                if (rate % 10 != 0) {
                    text.append('.').append(rate % 10);
                }
                text.append('%');
                if (row[ARTICLE + i] != 0) {
                    text.append('!').append(row[ARTICLE + i]);
                }
                text.append(' ');
                putName(text, book.firmNames[row[FIRM + i]]);
            }
        }

        private static void putName(StringBuilder text, long name) {
            for (int i = 0; i < MOST_LETTERS; i++) {
                int letter = Reader.letterOf(name, i);
                if (letter != NONE) {
                    text.append((char) letter);
                }
            }
        }
    }

    /** Judges all HOPS, goes all WAYS from a FIRM to another one, and keeps the best. */
    private static final class Finder {
        final Way best = new Way();
        int ways = 0;
        /** By a HOP's two FIRMS: its LINK (NONE: none is there), RATE, ARTICLE. */
        final int[] linkAt = new int[MOST_FIRMS * MOST_FIRMS];
        final int[] rateAt = new int[MOST_FIRMS * MOST_FIRMS];
        final int[] articleAt = new int[MOST_FIRMS * MOST_FIRMS];
        private final int[] treatyAt = new int[MOST_LANDS * MOST_LANDS];
        private final Way tried = new Way();
        private int to = 0;
        private boolean sparing = false;

        /** The WAY by which most ARRIVES; FIRMS whose bits are in shunned are not touched. */
        boolean find(State s, int sort, int from, int to, int amount, int shunned) {
            this.to = to;
            ways = 0;
            tried.from = from;
            findTreaties(s);
            judgeHops(s, sort, to);
            goOn(s, from, amount, 0, shunned | 1 << from, 0);
            return ways > 0;
        }

        /** The WAY by which least is WITHHELD. */
        boolean findSparing(State s, int sort, int from, int to, int amount) {
            sparing = true;
            boolean found = find(s, sort, from, to, amount, 0);
            sparing = false;
            return found;
        }

        /** By the TREATIES found; the OWNER is the same on all WAYS, so each HOP is judged once, ahead of them. */
        void judgeHops(State s, int sort, int owner) {
            for (int i = 0; i < linkAt.length; i++) {
                linkAt[i] = NONE;
            }
            for (int k = 0; k < s.row[State.LINKS]; k++) {
                if (s.row[State.SORT + k] == sort && s.row[State.SINCE + k] <= s.row[State.YEAR]) {
                    int at = s.row[State.SECOND + k] * MOST_FIRMS + s.row[State.FIRST + k];
                    linkAt[at] = k;
                    articleAt[at] = articleOf(s, k, s.book.landOf[owner]);
                    rateAt[at] = rateOf(s, k, articleAt[at]);
                }
            }
        }

        void findTreaties(State s) {
            for (int land = 0; land < s.book.lands; land++) {
                for (int other = 0; other < land; other++) {
                    boolean lapsed = land == s.lapsedLand && other == s.lapsedOther
                            || land == s.lapsedOther && other == s.lapsedLand;
                    int t = lapsed ? NONE : s.book.treatyOf(land, other, s.row[State.YEAR]);
                    treatyAt[land * MOST_LANDS + other] = t;
                    treatyAt[other * MOST_LANDS + land] = t;
                }
            }
        }

        /** The first ARTICLE that fails of a HOP by the k-th LINK; home is the OWNER's LAND. */
        private int articleOf(State s, int k, int home) {
            int payee = s.row[State.FIRST + k];
            int here = s.book.landOf[s.row[State.SECOND + k]];
            int there = s.book.landOf[payee];
            if (here == there) {
                return 0;
            }
            int t = treatyAt[here * MOST_LANDS + there];
            if (t == NONE) {
                return 1;
            }
            int[] treaties = s.book.treaties;
            if (s.row[State.STAFF + payee] < treaties[Book.STAFF + t]) {
                return 2;
            }
            int asked = treaties[Book.OWNER + t];
            boolean far = home != here && treatyAt[home * MOST_LANDS + here] == NONE;
            if (asked == 1 && home != there || asked == 2 && far) {
                return 3;
            }
            if (s.row[State.SORT + k] == INTEREST) {
                return 0;
            }
            if (s.row[State.SHARE + k] < treaties[Book.SHARE + t]) {
                return 4;
            }
            return s.row[State.YEAR] - s.row[State.SINCE + k] < treaties[Book.YEARS + t] ? 5 : 0;
        }

        private int rateOf(State s, int k, int article) {
            int sort = s.row[State.SORT + k];
            int here = s.book.landOf[s.row[State.SECOND + k]];
            int there = s.book.landOf[s.row[State.FIRST + k]];
            if (here == there) {
                return 0;
            }
            int t = treatyAt[here * MOST_LANDS + there];
            if (t == NONE || article >= 1 && article <= 3) {
                return s.book.laws[sort * MOST_LANDS + here];
            }
            if (article != 0) {
                return s.book.treaties[Book.HIGH + t];
            }
            return s.book.treaties[(sort == INTEREST ? Book.LOW_INTEREST : Book.LOW) + t];
        }

        /** Tries all HOPS from a FIRM as a WAY's i-th, FIRMS in their order, so of like WAYS the lowest comes first. */
        private void goOn(State s, int firm, int paid, int i, int touched, int withheld) {
            if (i >= MOST_HOPS) {
                return;
            }
            for (int next = 0; next < s.book.firms; next++) {
                int at = firm * MOST_FIRMS + next;
                if (linkAt[at] != NONE && (touched >> next & 1) == 0) {
                    int held = paid * rateAt[at] / THOUSAND;
                    tried.row[Way.FIRM + i] = next;
                    tried.row[Way.RATE + i] = rateAt[at];
                    tried.row[Way.ARTICLE + i] = articleAt[at];
                    tried.row[Way.PAID + i] = paid;
                    tried.row[Way.HELD + i] = held;
                    if (next == to) {
                        arrive(s, i, paid - held, withheld + held);
                    } else {
                        taxStop(s, i, linkAt[at]);
                        int rest = paid - held - tried.row[Way.DUE + i];
                        goOn(s, next, rest, i + 1, touched | 1 << next, withheld + held);
                    }
                }
            }
        }

        /** DUE that is not set off, and CREDIT then, of the STOP that the i-th HOP leads to by the k-th LINK. */
        private void taxStop(State s, int i, int k) {
            int stop = tried.row[Way.FIRM + i];
            int due = 0;
            int credit = s.row[State.CREDIT + stop];
            if (s.row[State.SORT + k] == INTEREST || s.row[State.SHARE + k] < UNTAXED_SHARE) {
                int whole = tried.row[Way.PAID + i] * s.book.laws[Book.TAX + s.book.landOf[stop]] / THOUSAND;
                int both = tried.row[Way.HELD + i] + credit;
                int setOff = Math.min(whole, both);
                due = whole - setOff;
                credit = Math.min(both - setOff, MOST_CREDIT);
            }
            tried.row[Way.DUE + i] = due;
            tried.row[Way.CREDIT + i] = credit;
        }

        private void arrive(State s, int i, int arrives, int withheld) {
            tried.row[Way.DUE + i] = 0;
            tried.row[Way.CREDIT + i] = s.row[State.CREDIT + to];
            ways++;
            int ahead = sparing ? best.withheld - withheld : arrives - best.arrives;
            if (ways == 1 || ahead > 0 || ahead == 0 && i + 1 < best.hops) {
                System.arraycopy(tried.row, 0, best.row, 0, Way.SIZE);
                best.from = tried.from;
                best.hops = i + 1;
                best.arrives = arrives;
                best.withheld = withheld;
            }
        }
    }

    /** The ACTS: what stands against one, and what it makes of a state. */
    private static final class Acts {
        private final Finder finder;

        Acts(Finder finder) {
            this.finder = finder;
        }

        /** Why an ACT can't be, as STATUS counts it, or NONE; of one that is PAID the finder has the WAY then. */
        int reasonAgainst(State s, int act, int a, int b, int c, int d) {
            switch (act) {
                case ACT_PAY:
                    return againstPay(s, a, b, c, d);
                case ACT_PASS:
                    return againstPass(s, a);
                case ACT_STAFF:
                    return againstStaff(s, a, b);
                case ACT_OWN:
                    return againstOwn(s, a, b, c);
                default:
                    return againstLend(s, a, b);
            }
        }

        private int againstPay(State s, int sort, int from, int to, int amount) {
            if (!s.book.hasFirm(from) || !s.book.hasFirm(to)) {
                return NO_SUCH;
            }
            if (!isSort(sort) || !isAmount(amount)) {
                return OUT_OF_BOUNDS;
            }
            return from == to || !finder.find(s, sort, from, to, amount, 0) ? IS_SO : NONE;
        }

        private static int againstPass(State s, int n) {
            if (s.book.firms == 0) {
                return NO_SUCH;
            }
            if (n < 1 || n > MOST_PASSING) {
                return OUT_OF_BOUNDS;
            }
            return s.row[State.YEAR] + n > LAST_YEAR ? TOO_MUCH : NONE;
        }

        private static int againstStaff(State s, int firm, int n) {
            if (!s.book.hasFirm(firm)) {
                return NO_SUCH;
            }
            if (n < 0 || n > MOST_STAFF) {
                return OUT_OF_BOUNDS;
            }
            return s.row[State.STAFF + firm] == n ? IS_SO : NONE;
        }

        private static int againstOwn(State s, int firm, int of, int share) {
            if (!s.book.hasFirm(firm) || !s.book.hasFirm(of)) {
                return NO_SUCH;
            }
            if (share < 0 || share > MOST_SHARE) {
                return OUT_OF_BOUNDS;
            }
            int k = s.linkOf(DIVIDENDS, firm, of);
            int was = k == NONE ? 0 : s.row[State.SHARE + k];
            if (firm == of || was == share) {
                return IS_SO;
            }
            return k == NONE && s.row[State.LINKS] >= MOST_LINKS ? TOO_MUCH : NONE;
        }

        private static int againstLend(State s, int firm, int to) {
            if (!s.book.hasFirm(firm) || !s.book.hasFirm(to)) {
                return NO_SUCH;
            }
            if (firm == to) {
                return IS_SO;
            }
            boolean full = s.row[State.LINKS] >= MOST_LINKS;
            return full && s.linkOf(INTEREST, firm, to) == NONE ? TOO_MUCH : NONE;
        }

        /** Does an ACT that nothing stands against: the number that the LOG tells of it. */
        int carryOut(State s, int act, int a, int b, int c) {
            switch (act) {
                case ACT_PAY:
                    payByBest(s, c);
                    return finder.best.arrives;
                case ACT_PASS:
                    s.row[State.YEAR] += a;
                    return s.row[State.YEAR];
                case ACT_STAFF:
                    int was = s.row[State.STAFF + a];
                    s.row[State.STAFF + a] = b;
                    return was;
                case ACT_OWN:
                    return setShare(s, a, b, c);
                default:
                    return turnLoan(s, a, b);
            }
        }

        /** PAID by the WAY that the finder found last. */
        void payByBest(State s, int to) {
            Way way = finder.best;
            for (int i = 0; i < way.hops; i++) {
                s.row[State.CREDIT + way.row[Way.FIRM + i]] = way.row[Way.CREDIT + i];
            }
            for (int land = 0; land < s.book.lands; land++) {
                s.row[State.TAKEN + land] += way.takenBy(s.book, land);
            }
            s.row[State.GOT + to] += way.arrives;
        }

        private static int setShare(State s, int firm, int of, int share) {
            int k = s.linkOf(DIVIDENDS, firm, of);
            if (k == NONE) {
                s.addLink(DIVIDENDS, firm, of, share, s.row[State.YEAR]);
                return 0;
            }
            int was = s.row[State.SHARE + k];
            if (share == 0) {
                s.removeLink(k);
            } else {
                s.row[State.SHARE + k] = share;
            }
            return was;
        }

        private static int turnLoan(State s, int firm, int to) {
            int k = s.linkOf(INTEREST, firm, to);
            if (k == NONE) {
                s.addLink(INTEREST, firm, to, 0, s.row[State.YEAR]);
                return 1;
            }
            s.removeLink(k);
            return 0;
        }

        /** The FIRM that the LOG tells of an ACT with these numbers. */
        static int firmOf(int act, int a, int c) {
            if (act == ACT_PASS) {
                return NONE;
            }
            return act == ACT_PAY ? c : a;
        }
    }

    /** The states ahead of the latest ACTS, in a ring. */
    private static final class History {
        private static final int MOST_UNDONE = 40;

        int held = 0;
        private int next = 0;
        private final int[] rows = new int[MOST_UNDONE * State.SIZE];

        void forget() {
            held = 0;
        }

        void keep(State s) {
            System.arraycopy(s.row, 0, rows, next * State.SIZE, State.SIZE);
            next = (next + 1) % MOST_UNDONE;
            held = Math.min(held + 1, MOST_UNDONE);
        }

        boolean giveBack(State s) {
            if (held == 0) {
                return false;
            }
            next = (next + MOST_UNDONE - 1) % MOST_UNDONE;
            System.arraycopy(rows, next * State.SIZE, s.row, 0, State.SIZE);
            held--;
            return true;
        }
    }

    /** The LOG in a ring: more than is told is held, so that what an ACT pushed out is told again when it is UNDONE. */
    private static final class Log {
        static final int PARTS = 3;
        private static final int MOST_TOLD = 60;
        private static final int MOST_HELD = MOST_TOLD + History.MOST_UNDONE;

        private int held = 0;
        private int next = 0;
        private final int[] row = new int[MOST_HELD * PARTS];

        void forget() {
            held = 0;
        }

        void add(int act, int number, int firm) {
            int at = next * PARTS;
            row[at] = act;
            row[at + 1] = number;
            row[at + 2] = firm;
            next = (next + 1) % MOST_HELD;
            held = Math.min(held + 1, MOST_HELD);
        }

        void dropLatest() {
            if (held > 0) {
                next = (next + MOST_HELD - 1) % MOST_HELD;
                held--;
            }
        }

        int size() {
            return Math.min(held, MOST_TOLD);
        }

        int part(int i, int what) {
            return row[(next + MOST_HELD - 1 - i) % MOST_HELD * PARTS + what];
        }

        void copyFrom(Log other) {
            System.arraycopy(other.row, 0, row, 0, row.length);
            held = other.held;
            next = other.next;
        }
    }
}
