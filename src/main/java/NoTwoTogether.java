import java.util.Arrays;

/** A bridge of slats that go by chance, and the man who looks after them: see ../shared/DOC.md. */
public final class NoTwoTogether {
    public static final int NONE = -1;

    private static final int NO_SUCH = NONE - 999999;
    private static final long ALL = 1000000000000L;
    private static final int MILLION = 1000000;

    private static final int LOAD = 0;
    private static final int PERIOD = 1;
    private static final int BACK = 2;
    private static final int EVERY = 3;
    private static final int WALK = 4;
    private static final int HARM = 5;
    private static final int LEFT_STOCK = 6;
    private static final int RIGHT_STOCK = 7;
    private static final int[] LEAST_TOLD = {0, 1, 0, 1, 0, 0, 0, 0};
    private static final int[] MOST_TOLD = {99, 9, 20, 99, 99, 9999, 999, 999};

    private static final int MOST_DAYS_AHEAD = 60;
    private static final int FAULT_PLACE = 1;
    private static final int FAULT_NUMBER = 2;
    private static final int FAULT_MANY = 3;

    private final Tape tape = new Tape();
    private final Parser parser = new Parser(tape);
    private final Texts texts = new Texts();
    private final Texts keptTexts = new Texts();
    private final Row now = new Row();
    private final Row kept = new Row();
    private final Row mind = new Row();
    private final Asker asker = new Asker();
    private final Odds odds = new Odds(asker);
    private final Future future = new Future(asker);
    private final Bridge bridge = new Bridge(asker);
    private final Tries tries = new Tries(odds);
    private boolean isKept;
    private int fault;
    private int faultPlace = NONE;

    public NoTwoTogether() {
        now.begin(8);
    }

    public int state(int v) {
        int was = now.draws;
        now.draws = v;
        return was;
    }

    public boolean row(int n) {
        if (n < 2 || n > Row.MOST) {
            return false;
        }
        now.begin(n);
        return true;
    }

    public boolean place(int p, int sort, int age, boolean gone) {
        if (!now.has(p) || sort < 0 || sort >= Row.SORTS || age < 0 || age > 999) {
            return false;
        }
        now.sort[p] = sort;
        now.age[p] = age;
        now.gone = gone ? now.gone | 1L << p : now.gone & ~(1L << p);
        return true;
    }

    public boolean sort(int k, int weak, int price) {
        if (k < 0 || k >= Row.SORTS || weak < 0 || weak > 1000 || price < 0 || price > 99) {
            return false;
        }
        now.weak[k] = weak;
        now.price[k] = price;
        return true;
    }

    public boolean set(int what, int v) {
        if (what < 0 || what >= LEAST_TOLD.length || v < LEAST_TOLD[what] || v > MOST_TOLD[what]) {
            return false;
        }
        now.told[what] = v;
        return true;
    }

    public int feed(int a, int b, int c, int d, int e) {
        if (tape.length + 20 > Tape.MOST) {
            return NONE;
        }
        tape.add(a);
        tape.add(b);
        tape.add(c);
        tape.add(d);
        tape.add(e);
        return tape.length;
    }

    public boolean end(int n) {
        if (n < 0 || n > tape.length) {
            return false;
        }
        tape.length = n;
        return true;
    }

    public int text(int k) {
        int lines = NONE;
        fault = 0;
        faultPlace = NONE;
        if (k >= 0 && k <= 3) {
            lines = k == 3 ? parser.readBreaks() : parser.readLines(k == 0);
            fault = parser.fault;
            faultPlace = parser.faultPlace;
        }
        if (lines != NONE) {
            keepRead(k);
        }
        tape.length = 0;
        return lines;
    }

    public int fault(int what) {
        if (what == 0) {
            return fault;
        }
        return what == 1 ? faultPlace : NONE;
    }

    public int of(int p, int what) {
        if (!now.has(p)) {
            return NO_SUCH;
        }
        switch (what) {
            case 0: return now.sort[p];
            case 1: return now.age[p];
            case 2: return bit(now.gone, p);
            case 3: return now.seen[p];
            case 4: return bit(now.seenGone, p);
            case 5: return asker.goes(now, texts.law, p, besideIn(now.gone, p), 0);
            case 6: return asker.guess(now, texts.law, p);
            case 7: return asker.urge(now, texts.first, p);
            case 8: return asker.urge(now, texts.second, p);
            case 9: return now.changes[p];
            default: return NO_SUCH;
        }
    }

    public boolean see(int p) {
        if (!now.has(p)) {
            return false;
        }
        now.lookAt(p);
        return true;
    }

    public int fails(int low, int high) {
        if (low >>> 30 != 0 || high >>> 30 != 0) {
            return NONE;
        }
        long gone = (long) high << 30 | low;
        if (gone >>> now.size != 0L) {
            return NONE;
        }
        return texts.breaks.breaksRow(gone, now.size) ? 1 : 0;
    }

    public int days(int n) {
        if (n < 1 || n > 99 || now.day + n > 9999) {
            return NONE;
        }
        int before = now.failures;
        for (int i = 0; i < n; i++) {
            bridge.passDay(now, texts, texts.first);
        }
        return now.failures - before;
    }

    public long chance(int what) {
        if (what == 0) {
            return odds.ofNow(now, texts);
        }
        return what == 1 ? odds.ofThought(now, texts) : NONE;
    }

    public long left(int d) {
        if (now.size > Future.MOST || d < 0 || d > MOST_DAYS_AHEAD) {
            return NONE;
        }
        goAhead(d);
        return future.remaining();
    }

    public int ahead(int what, int d) {
        if (now.size > Future.MOST) {
            return NONE;
        }
        if (what == 0) {
            return lasts();
        }
        if (what != 1 || d < 0 || d > MOST_DAYS_AHEAD) {
            return NONE;
        }
        goAhead(d);
        return future.mostLikely();
    }

    public long hold(int k) {
        if (k < 0 || k > now.size) {
            return NONE;
        }
        return odds.holding(now.size, k, texts.breaks);
    }

    public int which(int k) {
        if (k < 0 || k > 4 || now.size > Tries.MOST_CHANGED_ROW) {
            return NONE;
        }
        return tries.bestChange(k, now, mind, texts);
    }

    public int where(int p) {
        if (!now.has(p) || now.size > Tries.MOST_ORDERED_ROW) {
            return NONE;
        }
        return tries.bestOrder(p, now, mind, texts);
    }

    public int stocks(int set, int what) {
        if (what < 0 || what > 1 || now.size > Tries.MOST_SET_ROW || set < 0 || set >>> now.size != 0) {
            return NONE;
        }
        return tries.leastWay(set, what, now);
    }

    public int thought(int rule, int every, int d, int what) {
        if (rule < 1 || rule > 2 || !isEvery(every) || d < 1 || d > 99) {
            return NONE;
        }
        if (what < 0 || what > 2) {
            return NONE;
        }
        think(rule, every, d);
        if (what == 0) {
            return mind.cost - now.cost;
        }
        return what == 1 ? mind.failures - now.failures : mind.changed - now.changed;
    }

    public int often(int d, int what) {
        if (d < 1 || d > 99 || what < 0 || what > 1) {
            return NONE;
        }
        return what == 0 ? cheapestEvery(d) : cheaperRule(d);
    }

    public int nine(int m) {
        if (m < 1 || m > 99) {
            return NONE;
        }
        long kept = MILLION - odds.ofNow(now, texts) / MILLION;
        long rest = MILLION;
        for (int i = 0; i < m; i++) {
            rest = rest * kept / MILLION;
        }
        return (int) rest;
    }

    public boolean image(boolean taken) {
        if (taken) {
            kept.copy(now);
            keptTexts.copy(texts);
            isKept = true;
        } else if (isKept) {
            now.copy(kept);
            texts.copy(keptTexts);
        }
        return isKept;
    }

    public int look(int what) {
        switch (what) {
            case 0: return now.size;
            case 1: return now.day;
            case 2: return now.failures;
            case 3: return now.cost;
            case 4: return now.changed;
            case 5: return Long.bitCount(now.gone);
            case 6: return texts.breaks.breaksRow(now.gone, now.size) ? 1 : 0;
            case 7: return now.stay;
            case 8: return now.stayPlace;
            default: return what < 9 || what - 9 >= now.told.length ? NONE : now.told[what - 9];
        }
    }

    private void keepRead(int k) {
        if (k == 3) {
            texts.breaks.copy(parser.breaks);
        } else {
            texts.lines(k).copy(parser.lines);
        }
    }

    private void goAhead(int days) {
        future.begin(now, texts.breaks);
        for (int i = 0; i < days; i++) {
            future.passDay(now, texts.law, i);
        }
    }

    private int lasts() {
        future.begin(now, texts.breaks);
        long sum = future.remaining();
        for (int i = 0; i < MOST_DAYS_AHEAD - 1; i++) {
            future.passDay(now, texts.law, i);
            sum += future.remaining();
        }
        return (int) (sum * 1000L / ALL);
    }

    private void think(int rule, int every, int days) {
        mind.copy(now);
        mind.told[EVERY] = every;
        for (int i = 0; i < days; i++) {
            bridge.passDay(mind, texts, texts.lines(rule));
        }
    }

    private int cheapestEvery(int days) {
        int best = 9;
        int least = 0;
        for (int every = 9; every >= 1; every--) {
            think(1, every, days);
            int cost = mind.cost - now.cost;
            if (every == 9 || cost < least) {
                best = every;
                least = cost;
            }
        }
        return best;
    }

    private int cheaperRule(int days) {
        think(1, now.told[EVERY], days);
        int first = mind.cost - now.cost;
        think(2, now.told[EVERY], days);
        int second = mind.cost - now.cost;
        return second < first ? 2 : 1;
    }

    private static boolean isEvery(int v) {
        return v >= LEAST_TOLD[EVERY] && v <= MOST_TOLD[EVERY];
    }

    private static int bit(long set, int p) {
        return (int) (set >>> p & 1L);
    }

    private static int besideIn(long gone, int p) {
        return (p > 0 ? bit(gone, p - 1) : 0) + bit(gone, p + 1);
    }

    /** The bytes told, and the tokens that they make. */
    private static final class Tape {
        static final int MOST = 500;
        static final int END = 0;
        static final int NUMBER = 1;
        static final int STRANGE = 2;
        /** A symbol's kind is its sign; a keyword's is its place among these, behind all signs. */
        static final String WORDS =
            "go change when and or not weak age sort beside place size load day mid gone phase since side any in shape there all ";
        static final int GO = 256;
        static final int CHANGE = 257;
        static final int WHEN = 258;
        static final int AND = 259;
        static final int OR = 260;
        static final int NOT = 261;
        static final int WEAK = 262;
        static final int LOAD_WORD = 268;
        static final int MID = 270;
        static final int GONE = 271;
        static final int SINCE = 273;
        static final int SIDE = 274;
        static final int ANY = 275;
        static final int IN = 276;
        static final int SHAPE = 277;
        static final int THERE = 278;
        static final int EITHER = 279;

        final byte[] bytes = new byte[MOST];
        final int[] kinds = new int[MOST + 1];
        final int[] places = new int[MOST + 1];
        final int[] numbers = new int[MOST + 1];
        int length;
        int at;

        void add(int number) {
            for (int shift = 24; shift >= 0 && length < MOST; shift -= 8) {
                bytes[length] = (byte) (number >>> shift);
                length++;
            }
        }

        int kind() {
            return kinds[at];
        }

        int number() {
            return numbers[at];
        }

        void next() {
            if (at < MOST && kinds[at] != END) {
                at++;
            }
        }

        void cutTokens() {
            int count = 0;
            int from = 0;
            while (from < length && count < MOST) {
                int stop = from + 1;
                if (!isBlank(bytes[from])) {
                    stop = tokenEnd(from);
                    kinds[count] = kindOf(from, stop);
                    numbers[count] = kinds[count] == NUMBER ? valueOf(from, stop) : 0;
                    places[count] = from;
                    count++;
                }
                from = stop;
            }
            kinds[count] = END;
            places[count] = length;
            numbers[count] = 0;
            at = 0;
        }

        private int tokenEnd(int from) {
            int stop = from + 1;
            if (isLetter(bytes[from])) {
                while (stop < length && isLetter(bytes[stop])) {
                    stop++;
                }
            } else if (isDigit(bytes[from])) {
                while (stop < length && isDigit(bytes[stop])) {
                    stop++;
                }
            }
            return stop;
        }

        private int kindOf(int from, int stop) {
            int sign = bytes[from];
            if (isLetter(sign)) {
                return wordKind(from, stop);
            }
            if (isDigit(sign)) {
                return stop - from <= 4 ? NUMBER : STRANGE;
            }
            return isSymbol(sign) ? sign : STRANGE;
        }

        private int wordKind(int from, int stop) {
            int kind = GO;
            int at = from;
            boolean alike = true;
            for (int i = 0; i < WORDS.length(); i++) {
                char c = WORDS.charAt(i);
                if (c != ' ') {
                    alike = alike && at < stop && bytes[at] == c;
                    at++;
                } else if (alike && at == stop) {
                    return kind;
                } else {
                    kind++;
                    at = from;
                    alike = true;
                }
            }
            return STRANGE;
        }

        private int valueOf(int from, int stop) {
            int value = 0;
            for (int i = from; i < stop; i++) {
                value = 10 * value + bytes[i] - '0';
            }
            return value;
        }

        private static boolean isBlank(int c) {
            return c == 32 || c == 10;
        }

        private static boolean isLetter(int c) {
            return c >= 'a' && c <= 'z' || c >= 'A' && c <= 'Z';
        }

        private static boolean isDigit(int c) {
            return c >= '0' && c <= '9';
        }

        private static boolean isSymbol(int c) {
            return c == ';' || c == '+' || c == '-' || c == '*' || c == '/' || c == '(' || c == ')'
                || c == '<' || c == '=' || c == '>';
        }
    }

    /** Reads the tape as THE LAW, a RULE or WHAT FAILS; stops at the first fault. */
    private static final class Parser {
        static final int MOST_OPEN = 8;

        final Tape tape;
        final Lines lines = new Lines();
        final Breaks breaks = new Breaks();
        int fault;
        int faultPlace;
        private boolean isLaw;

        Parser(Tape tape) {
            this.tape = tape;
        }

        int readLines(boolean law) {
            begin();
            isLaw = law;
            lines.clear();
            int count = 0;
            while (count <= Lines.MOST && tape.kind() != Tape.END) {
                if (!readLine(count)) {
                    return NONE;
                }
                count++;
            }
            return count;
        }

        int readBreaks() {
            begin();
            breaks.clear();
            int count = 0;
            while (count <= Breaks.MOST && tape.kind() != Tape.END) {
                if (!readBreak(count)) {
                    return NONE;
                }
                count++;
            }
            return count;
        }

        private void begin() {
            tape.cutTokens();
            fault = 0;
            faultPlace = NONE;
        }

        private boolean stop(int kind) {
            fault = kind;
            faultPlace = tape.places[tape.at];
            return false;
        }

        private boolean pass(int kind) {
            if (tape.kind() != kind) {
                return stop(FAULT_PLACE);
            }
            tape.next();
            return true;
        }

        private boolean readLine(int line) {
            if (tape.kind() != (isLaw ? Tape.GO : Tape.CHANGE)) {
                return stop(FAULT_PLACE);
            }
            if (line >= Lines.MOST) {
                return stop(FAULT_MANY);
            }
            tape.next();
            if (!readSum()) {
                return false;
            }
            lines.beginWhen(line);
            if (tape.kind() == Tape.WHEN) {
                tape.next();
                if (!readOr(0)) {
                    return false;
                }
            }
            lines.endLine(line);
            return pass(';');
        }

        private boolean readSum() {
            boolean good = readProduct();
            for (int i = 0; i < Tape.MOST && good && (tape.kind() == '+' || tape.kind() == '-'); i++) {
                int sign = tape.kind();
                tape.next();
                good = readProduct() && lines.put(-sign);
            }
            return good;
        }

        private boolean readProduct() {
            boolean good = readUnit();
            for (int i = 0; i < Tape.MOST && good && (tape.kind() == '*' || tape.kind() == '/'); i++) {
                int sign = tape.kind();
                tape.next();
                good = (sign == '*' || isDivisor()) && readUnit() && lines.put(-sign);
            }
            return good;
        }

        private boolean isDivisor() {
            if (tape.kind() != Tape.NUMBER) {
                return stop(FAULT_PLACE);
            }
            return tape.number() != 0 || stop(FAULT_NUMBER);
        }

        private boolean readUnit() {
            if (tape.kind() == Tape.NUMBER) {
                lines.put(tape.number());
            } else if (isName(tape.kind())) {
                lines.put(-tape.kind());
            } else {
                return stop(FAULT_PLACE);
            }
            tape.next();
            return true;
        }

        private boolean isName(int kind) {
            if (isLaw) {
                return kind >= Tape.WEAK && kind <= Tape.MID;
            }
            return kind > Tape.WEAK && kind <= Tape.SINCE && kind != Tape.LOAD_WORD && kind != Tape.MID;
        }

        private boolean readOr(int open) {
            boolean good = readAnd(open);
            for (int i = 0; i < Tape.MOST && good && tape.kind() == Tape.OR; i++) {
                tape.next();
                good = readAnd(open) && lines.put(-Tape.OR);
            }
            return good;
        }

        private boolean readAnd(int open) {
            boolean good = readClause(open);
            for (int i = 0; i < Tape.MOST && good && tape.kind() == Tape.AND; i++) {
                tape.next();
                good = readClause(open) && lines.put(-Tape.AND);
            }
            return good;
        }

        private boolean readClause(int open) {
            int kind = tape.kind();
            boolean opens = kind == Tape.NOT || kind == '(';
            if (opens && open >= MOST_OPEN) {
                return stop(FAULT_MANY);
            }
            if (opens) {
                tape.next();
                return kind == '(' ? readOr(open + 1) && pass(')') : readClause(open + 1) && lines.put(-Tape.NOT);
            }
            if (!readSum()) {
                return false;
            }
            int sign = tape.kind();
            if (sign != '<' && sign != '=' && sign != '>') {
                return stop(FAULT_PLACE);
            }
            tape.next();
            return readSum() && lines.put(-sign);
        }

        private boolean readBreak(int line) {
            int kind = tape.kind();
            if (kind != Tape.SIDE && kind != Tape.ANY && kind != Tape.SHAPE) {
                return stop(FAULT_PLACE);
            }
            if (line >= Breaks.MOST) {
                return stop(FAULT_MANY);
            }
            tape.next();
            if (kind == Tape.SHAPE) {
                return readShape() && pass(';');
            }
            return (kind == Tape.SIDE ? readSide() : readAny()) && pass(';');
        }

        private boolean readSide() {
            int many = tape.number();
            if (!passNumber(1)) {
                return false;
            }
            breaks.addAny(many, many);
            return true;
        }

        private boolean readAny() {
            int many = tape.number();
            if (!passNumber(1) || !pass(Tape.IN)) {
                return false;
            }
            int wide = tape.number();
            if (!passNumber(many)) {
                return false;
            }
            breaks.addAny(many, wide);
            return true;
        }

        private boolean passNumber(int least) {
            if (tape.kind() != Tape.NUMBER) {
                return stop(FAULT_PLACE);
            }
            if (tape.number() < least || tape.number() > Breaks.WIDEST) {
                return stop(FAULT_NUMBER);
            }
            tape.next();
            return true;
        }

        private boolean readShape() {
            int wide = 0;
            int told = 0;
            int gone = 0;
            while (wide <= Breaks.WIDEST && isShapePart(tape.kind())) {
                if (wide >= Breaks.WIDEST) {
                    return stop(FAULT_MANY);
                }
                told = told << 1 | (tape.kind() == Tape.EITHER ? 0 : 1);
                gone = gone << 1 | (tape.kind() == Tape.GONE ? 1 : 0);
                wide++;
                tape.next();
            }
            if (wide == 0) {
                return stop(FAULT_PLACE);
            }
            breaks.addShape(wide, told, gone);
            return true;
        }

        private static boolean isShapePart(int kind) {
            return kind == Tape.GONE || kind == Tape.THERE || kind == Tape.EITHER;
        }
    }

    /** THE LAW or a RULE, each line as its parts one behind another, what is done with two behind both. */
    private static final class Lines {
        static final int MOST = 16;

        /** A number as it is; a name, or what is done, as its token's kind below 0. */
        final int[] code = new int[Tape.MOST];
        final int[] starts = new int[MOST + 1];
        final int[] whens = new int[MOST];
        int count;
        int used;

        void clear() {
            count = 0;
            used = 0;
        }

        /** There is room for a part of each byte of the tape. */
        boolean put(int part) {
            if (used >= code.length) {
                return false;
            }
            code[used] = part;
            used++;
            return true;
        }

        void beginWhen(int line) {
            if (line >= 0 && line < MOST) {
                whens[line] = used;
            }
        }

        void endLine(int line) {
            if (line >= 0 && line < MOST) {
                starts[line + 1] = used;
                count = line + 1;
            }
        }

        void copy(Lines other) {
            System.arraycopy(other.code, 0, code, 0, other.used);
            System.arraycopy(other.starts, 0, starts, 0, starts.length);
            System.arraycopy(other.whens, 0, whens, 0, whens.length);
            count = other.count;
            used = other.used;
        }
    }

    /** WHAT FAILS: of the eight last PLACES (the last one lowest) how many are enough to meet a line. */
    private static final class Breaks {
        static final int MOST = 8;
        static final int WIDEST = 8;
        static final int LAST_EIGHT = 255;

        final int[] enough = new int[LAST_EIGHT + 1];

        Breaks() {
            clear();
        }

        void clear() {
            Arrays.fill(enough, WIDEST + 1);
        }

        void addAny(int many, int wide) {
            for (int set = 0; set <= LAST_EIGHT; set++) {
                for (int width = many; width <= wide && width < enough[set]; width++) {
                    if (Integer.bitCount(set & (1 << width) - 1) >= many) {
                        enough[set] = width;
                    }
                }
            }
        }

        void addShape(int wide, int told, int gone) {
            for (int set = 0; set <= LAST_EIGHT; set++) {
                if ((set & told) == gone && wide < enough[set]) {
                    enough[set] = wide;
                }
            }
        }

        /** Whether a line is met by the last PLACES so far, of which there are so many (eight or fewer). */
        boolean isMet(int lastEight, int many) {
            return enough[lastEight & LAST_EIGHT] <= many;
        }

        boolean breaksRow(long gone, int size) {
            int last = 0;
            for (int p = 0; p < size; p++) {
                last = (last << 1 | bit(gone, p)) & LAST_EIGHT;
                if (isMet(last, Math.min(p + 1, WIDEST))) {
                    return true;
                }
            }
            return false;
        }

        void copy(Breaks other) {
            System.arraycopy(other.enough, 0, enough, 0, enough.length);
        }
    }

    /** All texts that are told. */
    private static final class Texts {
        final Lines law = new Lines();
        final Lines first = new Lines();
        final Lines second = new Lines();
        final Breaks breaks = new Breaks();

        Lines lines(int k) {
            if (k == 0) {
                return law;
            }
            return k == 1 ? first : second;
        }

        void copy(Texts other) {
            law.copy(other.law);
            first.copy(other.first);
            second.copy(other.second);
            breaks.copy(other.breaks);
        }
    }

    /** The row and all that was told beside the texts. */
    private static final class Row {
        static final int MOST = 60;
        static final int SORTS = 6;

        int size;
        final int[] sort = new int[MOST];
        final int[] age = new int[MOST];
        final int[] seen = new int[MOST];
        final int[] changes = new int[MOST];
        long gone;
        long seenGone;
        final int[] weak = {10, 10, 10, 10, 10, 10};
        final int[] price = {1, 1, 1, 1, 1, 1};
        final int[] told = {0, 5, 11, 1, 1, 100, 99, 99};
        int draws;
        int day;
        int failures;
        int cost;
        int changed;
        int stay;
        int stayPlace;

        void begin(int n) {
            size = n;
            gone = 0L;
            seenGone = 0L;
            stay = 0;
            stayPlace = NONE;
            Arrays.fill(sort, 0);
            Arrays.fill(age, 0);
            Arrays.fill(seen, NONE);
            Arrays.fill(changes, 0);
        }

        boolean has(int p) {
            return p >= 0 && p < size;
        }

        void lookAt(int p) {
            seen[p] = day;
            seenGone = seenGone & ~(1L << p) | gone & 1L << p;
        }

        int draw(int m) {
            draws = 1664525 * draws + 1013904223;
            return m > 0 ? (draws >>> 8) % m : 0;
        }

        void copy(Row other) {
            size = other.size;
            System.arraycopy(other.sort, 0, sort, 0, MOST);
            System.arraycopy(other.age, 0, age, 0, MOST);
            System.arraycopy(other.seen, 0, seen, 0, MOST);
            System.arraycopy(other.changes, 0, changes, 0, MOST);
            gone = other.gone;
            seenGone = other.seenGone;
            System.arraycopy(other.weak, 0, weak, 0, SORTS);
            System.arraycopy(other.price, 0, price, 0, SORTS);
            System.arraycopy(other.told, 0, told, 0, told.length);
            draws = other.draws;
            day = other.day;
            failures = other.failures;
            cost = other.cost;
            changed = other.changed;
            stay = other.stay;
            stayPlace = other.stayPlace;
        }
    }

    /** Asks the lines of a text about one PLACE. */
    private static final class Asker {
        static final int DEEPEST = 64;

        /** What the names stand for, in the order of their keywords from weak to since. */
        private final int[] names = new int[Tape.SINCE - Tape.WEAK + 1];
        private final int[] stack = new int[DEEPEST];

        int goes(Row row, Lines law, int p, int beside, int daysMore) {
            name(row, p, beside, daysMore);
            return Math.max(0, Math.min(1000, firstOf(law)));
        }

        int urge(Row row, Lines rule, int p) {
            name(row, p, besideIn(row.gone, p), 0);
            return firstOf(rule);
        }

        int guess(Row row, Lines law, int p) {
            if (row.seen[p] == NONE) {
                return 500;
            }
            if (bit(row.seenGone, p) == 1) {
                return 1000;
            }
            int stays = 1000 - goes(row, law, p, 0, 0);
            int rest = 1000;
            for (int day = row.seen[p]; day < row.day; day++) {
                rest = rest * stays / 1000;
            }
            return 1000 - rest;
        }

        private void name(Row row, int p, int beside, int daysMore) {
            int day = row.day + daysMore;
            names[0] = row.weak[row.sort[p]];
            names[1] = row.age[p] + daysMore;
            names[2] = row.sort[p];
            names[3] = beside;
            names[4] = p;
            names[5] = row.size;
            names[6] = row.told[LOAD];
            names[7] = day;
            names[8] = Math.abs(2 * p + 1 - row.size);
            names[9] = bit(row.gone, p);
            names[10] = row.told[PERIOD] > 0 ? (p + day) % row.told[PERIOD] : 0;
            names[11] = row.seen[p] == NONE ? day + 1 : day - row.seen[p];
        }

        private int firstOf(Lines lines) {
            for (int line = 0; line < lines.count && line < Lines.MOST; line++) {
                int when = lines.whens[line];
                int stop = lines.starts[line + 1];
                if (when == stop || valueOf(lines, when, stop) != 0) {
                    return valueOf(lines, lines.starts[line], when);
                }
            }
            return 0;
        }

        private int valueOf(Lines lines, int from, int stop) {
            int top = 0;
            stack[0] = 0;
            for (int i = from; i < stop && i < lines.code.length; i++) {
                int part = lines.code[i];
                int name = -part - Tape.WEAK;
                if (part >= 0 || name >= 0 && name < names.length) {
                    if (top < DEEPEST) {
                        stack[top] = part >= 0 ? part : names[name];
                        top++;
                    }
                    continue;
                }
                if (part == -Tape.NOT && top >= 1) {
                    stack[top - 1] = 1 - stack[top - 1];
                }
                if (part == -Tape.NOT || top < 2) {
                    continue;
                }
                top--;
                int a = stack[top - 1];
                int b = stack[top];
                switch (-part) {
                    case '+': stack[top - 1] = a + b; break;
                    case '-': stack[top - 1] = a - b; break;
                    case '*': stack[top - 1] = a * b; break;
                    case '/': stack[top - 1] = b == 0 ? 0 : a / b; break;
                    case '<': stack[top - 1] = a < b ? 1 : 0; break;
                    case '=': stack[top - 1] = a == b ? 1 : 0; break;
                    case '>': stack[top - 1] = a > b ? 1 : 0; break;
                    case Tape.AND: stack[top - 1] = a & b; break;
                    default: stack[top - 1] = a | b; break;
                }
            }
            return stack[0];
        }
    }

    /** How likely a row FAILS, and how many hold, PLACE by PLACE. */
    private static final class Odds {
        static final int LAST_SEVEN = 127;

        private final Asker asker;
        private final int[] chances = new int[Row.MOST];
        private long[] weights = new long[LAST_SEVEN + 1];
        private long[] next = new long[LAST_SEVEN + 1];
        private long[] rows = new long[(Row.MOST + 1) * (LAST_SEVEN + 1)];
        private long[] nextRows = new long[(Row.MOST + 1) * (LAST_SEVEN + 1)];

        Odds(Asker asker) {
            this.asker = asker;
        }

        long ofNow(Row row, Texts texts) {
            for (int p = 0; p < row.size; p++) {
                chances[p] = bit(row.gone, p) == 1 ? 1000 : asker.goes(row, texts.law, p, besideIn(row.gone, p), 0);
            }
            return out(row.size, texts.breaks);
        }

        long ofThought(Row row, Texts texts) {
            for (int p = 0; p < row.size; p++) {
                chances[p] = asker.guess(row, texts.law, p);
            }
            return out(row.size, texts.breaks);
        }

        private long out(int size, Breaks breaks) {
            long out = 0L;
            weights[0] = ALL;
            for (int p = 0; p < size; p++) {
                out += pass(p, breaks);
                long[] spent = weights;
                weights = next;
                next = spent;
            }
            return out;
        }

        /** How many sets of last PLACES there can be ahead of the p-th. */
        private static int setsAhead(int p) {
            return 1 << Math.min(p, 7);
        }

        private long pass(int p, Breaks breaks) {
            long out = 0L;
            int many = Math.min(p + 1, Breaks.WIDEST);
            int sets = setsAhead(p);
            Arrays.fill(next, 0L);
            for (int last = 0; last < sets; last++) {
                long weight = weights[last];
                if (weight == 0L) {
                    continue;
                }
                long gone = weight * chances[p] / 1000L;
                int then = last << 1;
                if (breaks.isMet(then | 1, many)) {
                    out += gone;
                } else {
                    next[(then | 1) & LAST_SEVEN] += gone;
                }
                if (breaks.isMet(then, many)) {
                    out += weight - gone;
                } else {
                    next[then & LAST_SEVEN] += weight - gone;
                }
            }
            return out;
        }

        long holding(int size, int many, Breaks breaks) {
            rows[0] = 1L;
            for (int p = 0; p < size; p++) {
                int most = Math.min(p, many);
                clearRows(most + 1);
                for (int gone = 0; gone <= most; gone++) {
                    addRows(p, gone, breaks);
                }
                long[] spent = rows;
                rows = nextRows;
                nextRows = spent;
            }
            long sum = 0L;
            for (int last = 0; last <= LAST_SEVEN; last++) {
                sum += rows[many << 7 | last];
            }
            return sum;
        }

        private void clearRows(int most) {
            for (int i = 0; i <= (most << 7 | LAST_SEVEN) && i < nextRows.length; i++) {
                nextRows[i] = 0L;
            }
        }

        private void addRows(int p, int gone, Breaks breaks) {
            int many = Math.min(p + 1, Breaks.WIDEST);
            int sets = setsAhead(p);
            for (int last = 0; last < sets; last++) {
                long ways = rows[gone << 7 | last];
                if (ways == 0L) {
                    continue;
                }
                int then = last << 1;
                if (!breaks.isMet(then, many)) {
                    nextRows[gone << 7 | then & LAST_SEVEN] += ways;
                }
                if (!breaks.isMet(then | 1, many) && gone < Row.MOST) {
                    nextRows[gone + 1 << 7 | (then | 1) & LAST_SEVEN] += ways;
                }
            }
        }
    }

    /** Days ahead of a short row, by all sets of PLACES that may be GONE. */
    private static final class Future {
        static final int MOST = 10;
        static final int SETS = 1 << MOST;

        private final Asker asker;
        private long[] weights = new long[SETS];
        private long[] next = new long[SETS];
        private final boolean[] broken = new boolean[SETS];
        private final int[] goes = new int[3 * MOST];
        private final int[] partSets = new int[SETS];
        private final long[] partWeights = new long[SETS];
        private int size;
        private int sets;

        Future(Asker asker) {
            this.asker = asker;
        }

        void begin(Row row, Breaks breaks) {
            size = Math.min(row.size, MOST);
            sets = 1 << size;
            Arrays.fill(weights, 0L);
            for (int set = 0; set < sets; set++) {
                broken[set] = breaks.breaksRow(set, size);
            }
            int first = (int) row.gone & sets - 1;
            if (!broken[first]) {
                weights[first] = ALL;
            }
        }

        void passDay(Row row, Lines law, int daysMore) {
            for (int p = 0; p < size; p++) {
                for (int beside = 0; beside < 3; beside++) {
                    goes[3 * p + beside] = asker.goes(row, law, p, beside, daysMore);
                }
            }
            Arrays.fill(next, 0L);
            for (int set = 0; set < sets; set++) {
                if (weights[set] != 0L) {
                    split(set);
                }
            }
            long[] spent = weights;
            weights = next;
            next = spent;
        }

        private void split(int set) {
            int parts = 1;
            partSets[0] = set;
            partWeights[0] = weights[set];
            for (int p = 0; p < size; p++) {
                int chance = bit(set, p) == 1 ? 0 : goes[3 * p + besideIn(set, p)];
                if (chance > 0) {
                    parts = splitBy(p, chance, parts);
                }
            }
            for (int i = 0; i < parts; i++) {
                if (!broken[partSets[i]]) {
                    next[partSets[i]] += partWeights[i];
                }
            }
        }

        private int splitBy(int p, int chance, int parts) {
            int more = parts;
            for (int i = 0; i < parts; i++) {
                long gone = partWeights[i] * chance / 1000L;
                if (gone != 0L && more < SETS) {
                    partWeights[i] -= gone;
                    partSets[more] = partSets[i] | 1 << p;
                    partWeights[more] = gone;
                    more++;
                }
            }
            return more;
        }

        long remaining() {
            long sum = 0L;
            for (int set = 0; set < sets; set++) {
                sum += weights[set];
            }
            return sum;
        }

        int mostLikely() {
            int best = NONE;
            long greatest = 0L;
            for (int set = 0; set < sets; set++) {
                if (weights[set] > greatest) {
                    best = set;
                    greatest = weights[set];
                }
            }
            return best;
        }
    }

    /** How a DAY goes by, and what the man does on it. */
    private static final class Bridge {
        private final Asker asker;
        private final int[] goes = new int[Row.MOST];
        private final int[] urges = new int[Row.MOST];

        Bridge(Asker asker) {
            this.asker = asker;
        }

        void passDay(Row row, Texts texts, Lines rule) {
            for (int p = 0; p < row.size; p++) {
                goes[p] = asker.goes(row, texts.law, p, besideIn(row.gone, p), 0);
            }
            for (int p = 0; p < row.size; p++) {
                if (bit(row.gone, p) == 0) {
                    wear(row, p);
                }
            }
            row.day++;
            if (texts.breaks.breaksRow(row.gone, row.size)) {
                row.failures++;
                row.cost += row.told[HARM];
            }
            if (row.told[EVERY] > 0 && row.day % row.told[EVERY] == 0) {
                come(row, rule);
            }
        }

        private void wear(Row row, int p) {
            if (row.draw(1000) < goes[p]) {
                row.gone |= 1L << p;
                return;
            }
            row.age[p]++;
            if (row.age[p] > row.stay) {
                row.stay = row.age[p];
                row.stayPlace = p;
            }
        }

        private void come(Row row, Lines rule) {
            for (int p = 0; p < row.size; p++) {
                urges[p] = asker.urge(row, rule, p);
            }
            for (int p = 0; p < row.size; p++) {
                row.lookAt(p);
            }
            int changed = 0;
            while (changed < row.told[BACK] && row.told[LEFT_STOCK] + row.told[RIGHT_STOCK] > 0) {
                int p = mostUrgent(row.size);
                if (p == NONE) {
                    return;
                }
                urges[p] = 0;
                change(row, p);
                changed++;
            }
        }

        private int mostUrgent(int size) {
            int best = NONE;
            int greatest = 0;
            for (int p = 0; p < size; p++) {
                if (urges[p] > greatest) {
                    best = p;
                    greatest = urges[p];
                }
            }
            return best;
        }

        private static void change(Row row, int p) {
            int left = p + 1;
            int right = row.size - p;
            boolean fromLeft = row.told[LEFT_STOCK] > 0 && (left <= right || row.told[RIGHT_STOCK] <= 0);
            row.told[fromLeft ? LEFT_STOCK : RIGHT_STOCK]--;
            row.cost += row.price[row.sort[p]] + row.told[WALK] * (fromLeft ? left : right);
            row.changed++;
            row.changes[p]++;
            row.age[p] = 0;
            row.gone &= ~(1L << p);
            row.lookAt(p);
        }
    }

    /** What is found by trying all there is. */
    private static final class Tries {
        static final int MOST_CHANGED_ROW = 12;
        static final int MOST_ORDERED_ROW = 7;
        static final int MOST_SET_ROW = 30;
        /** All orders of seven. */
        static final int MOST_ORDERS = 5040;

        private final Odds odds;
        private final int[] bestSorts = new int[MOST_ORDERED_ROW];

        Tries(Odds odds) {
            this.odds = odds;
        }

        int bestChange(int most, Row row, Row trial, Texts texts) {
            trial.copy(row);
            int best = 0;
            long least = odds.ofNow(row, texts);
            for (int set = 1; set < 1 << row.size; set++) {
                int many = Integer.bitCount(set);
                if (many > most) {
                    continue;
                }
                renew(trial, row, set);
                long chance = odds.ofNow(trial, texts);
                if (chance < least || chance == least && many < Integer.bitCount(best)) {
                    best = set;
                    least = chance;
                }
            }
            return best;
        }

        private static void renew(Row trial, Row row, int set) {
            trial.gone = row.gone & ~(long) set;
            for (int p = 0; p < row.size; p++) {
                trial.age[p] = bit(set, p) == 1 ? 0 : row.age[p];
            }
        }

        int bestOrder(int p, Row row, Row trial, Texts texts) {
            trial.copy(row);
            trial.gone = 0L;
            Arrays.fill(trial.age, 0);
            sortUp(trial.sort, row.size);
            long least = ALL + 1L;
            for (int i = 0; i < MOST_ORDERS; i++) {
                long chance = odds.ofNow(trial, texts);
                if (chance < least) {
                    least = chance;
                    System.arraycopy(trial.sort, 0, bestSorts, 0, Math.min(row.size, MOST_ORDERED_ROW));
                }
                if (!nextOrder(trial.sort, row.size)) {
                    break;
                }
            }
            return p < MOST_ORDERED_ROW ? bestSorts[p] : NONE;
        }

        private static void sortUp(int[] sorts, int size) {
            for (int i = 1; i < size; i++) {
                for (int j = i; j > 0 && sorts[j - 1] > sorts[j]; j--) {
                    swap(sorts, j - 1, j);
                }
            }
        }

        private static boolean nextOrder(int[] sorts, int size) {
            int i = size - 2;
            while (i >= 0 && sorts[i] >= sorts[i + 1]) {
                i--;
            }
            if (i < 0) {
                return false;
            }
            int j = size - 1;
            while (j > i && sorts[j] <= sorts[i]) {
                j--;
            }
            swap(sorts, i, j);
            for (int low = i + 1, high = size - 1; low < high; low++, high--) {
                swap(sorts, low, high);
            }
            return true;
        }

        private static void swap(int[] sorts, int i, int j) {
            int kept = sorts[i];
            sorts[i] = sorts[j];
            sorts[j] = kept;
        }

        /** The lower a PLACE, the more is won by going from the left: so the lowest ones go from there. */
        int leastWay(int set, int what, Row row) {
            int many = Integer.bitCount(set);
            int fewest = Math.max(0, many - row.told[RIGHT_STOCK]);
            int most = Math.min(many, row.told[LEFT_STOCK]);
            int best = NONE;
            int least = NONE;
            for (int left = fewest; left <= most; left++) {
                int way = wayOf(set, left, row.size);
                if (best == NONE || way < least) {
                    best = left;
                    least = way;
                }
            }
            return what == 0 ? least : best;
        }

        private static int wayOf(int set, int fromLeft, int size) {
            int way = 0;
            int met = 0;
            for (int p = 0; p < size; p++) {
                if (bit(set, p) == 1) {
                    way += met < fromLeft ? p + 1 : size - p;
                    met++;
                }
            }
            return way;
        }
    }
}
