/**
 * The back columns of a paper, in which people look for each other by what they do not say.
 *
 * No call makes an object: all rows are made with the object itself and used again, since all
 * calls of a run share one room.
 */
public final class BackColumns {
    public static final int BAD = -1, NO = -2, FULL = -3, NONE = -4;

    private static final String FIRST_TEXT =
            "w3,1,4;w2,5,5;w4,2,7;w1,0,3;w5,6,1;r0,6;r1,9;r2,4;r3,8;r1,2;n01;n24;n130;n3;";

    private static final int MOST_LETTERS = 200;
    private static final int FIRST_LETTER = 32;
    private static final int LAST_LETTER = 126;

    private static final int MOST_WORDS = 8;
    private static final int MOST_READERS = 6;
    private static final int MOST_NOTICES = 6;
    private static final int LONGEST_NOTICE = 5;
    private static final int HIGHEST_CODE = 88888;
    private static final int HIGHEST_UNIT = 10000;
    private static final int MEANINGS = 10;

    private static final int PLAIN = 0;
    private static final int KNOWING = 1;
    private static final int FOND = 2;
    private static final int POLICE = 3;

    private static final int MOST_CHANGES = 8;
    private static final int MOST_KEPT = 2;
    private static final int MOST_TOLD = 8;

    private static final int LONGEST_SOUGHT = 4;
    private static final int LONGEST_COLUMN = 30;
    private static final int MOST_RUN_DAYS = 15;
    private static final int HIGHEST_SEED = 9999;
    private static final int MOST_MONTH_DAYS = 40;

    private final Text text = new Text();
    private final Paper paper = new Paper();
    private final Paper draft = new Paper();
    private final Shelf changes = new Shelf(MOST_CHANGES);
    private final Shelf kept = new Shelf(MOST_KEPT);
    private final Hearsay hearsay = new Hearsay();
    private final Reading reading = new Reading();
    private final Search search = new Search();
    private final Matching matching = new Matching();
    private final Column filling = new Column();

    public BackColumns() {
        text.fill(FIRST_TEXT);
        text.proofread(paper);
        text.clear();
    }

    // ---- papers

    public int write(int letter) {
        if (!isWithin(letter, FIRST_LETTER, LAST_LETTER)) {
            return BAD;
        }
        return text.append(letter) ? text.length : FULL;
    }

    public int wipe() {
        int length = text.length;
        text.clear();
        return length;
    }

    public int fault() {
        return text.proofread(draft);
    }

    public int lay() {
        if (text.proofread(draft) != NONE || draft.words == 0) {
            return NO;
        }
        paper.copyFrom(draft);
        changes.clear();
        kept.clear();
        hearsay.clear();
        return paper.words;
    }

    public int word(int w, int what) {
        if (!paper.hasWord(w)) {
            return BAD;
        }
        switch (what) {
            case 0:
                return paper.cost[w];
            case 1:
                return paper.meaning[w];
            case 2:
                return paper.takenFor[w];
            default:
                return BAD;
        }
    }

    public int reader(int i, int what) {
        if (!paper.hasReader(i) || !isEither(what)) {
            return BAD;
        }
        return what == 0 ? paper.kind[i] : paper.want[i];
    }

    public int notice(int k, int what) {
        if (!paper.hasNotice(k)) {
            return BAD;
        }
        reading.measure(paper, paper.code[k]);
        switch (what) {
            case 0:
                return reading.code;
            case 1:
                return reading.cost;
            case 2:
                return reading.length;
            case 3:
                return paper.answerers(reading);
            default:
                return BAD;
        }
    }

    // ---- changes

    public int put(int code) {
        if (!paper.isCode(code)) {
            return BAD;
        }
        if (paper.notices >= MOST_NOTICES) {
            return FULL;
        }
        changes.pushForgetful(paper);
        paper.addNotice(code);
        return paper.notices;
    }

    public int take(int k) {
        if (!paper.hasNotice(k)) {
            return BAD;
        }
        changes.pushForgetful(paper);
        paper.removeNotice(k);
        return paper.notices;
    }

    public int takeFor(int w, int b) {
        if (!paper.hasWord(w) || !isWithin(b, 0, MEANINGS - 1)) {
            return BAD;
        }
        int before = paper.takenFor[w];
        changes.pushForgetful(paper);
        paper.takenFor[w] = b;
        return before;
    }

    public int undo() {
        return changes.popInto(paper) ? changes.size : NO;
    }

    // ---- reading

    public int reads(int i, int code) {
        if (!paper.hasReader(i) || !paper.isCode(code)) {
            return BAD;
        }
        reading.measure(paper, code);
        return reading.byKind(paper.kind[i]);
    }

    public int answers(int code) {
        if (!paper.isCode(code)) {
            return BAD;
        }
        return answerersOf(code);
    }

    public int price(int code) {
        if (!paper.isCode(code)) {
            return BAD;
        }
        reading.measure(paper, code);
        return reading.cost;
    }

    // ---- what would be

    public int cheapest(int i, int what) {
        if (!paper.hasReader(i) || !isEither(what)) {
            return BAD;
        }
        search.seek(paper, i);
        if (search.bestCode == 0) {
            return NONE;
        }
        return what == 0 ? search.bestCode : search.bestCost;
    }

    public int twofold() {
        int bits = 0;
        for (int k = 0; k < paper.notices; k++) {
            reading.measure(paper, paper.code[k]);
            if (reading.byKind(PLAIN) != reading.byKind(KNOWING)) {
                bits |= 1 << k;
            }
        }
        return bits;
    }

    public int matched(int k) {
        if (k != -1 && !paper.hasNotice(k)) {
            return BAD;
        }
        for (int n = 0; n < paper.notices; n++) {
            matching.answered[n] = answerersOf(paper.code[n]);
        }
        matching.solve(paper.notices, paper.readers);
        return k == -1 ? matching.howMany() : matching.owner[k];
    }

    public int near(int k) {
        if (k == -1) {
            return nearPairs();
        }
        return paper.hasNotice(k) ? nearTo(k) : BAD;
    }

    public int column(int l, int what) {
        if (!isWithin(l, 0, LONGEST_COLUMN) || !isEither(what)) {
            return BAD;
        }
        for (int k = 0; k < paper.notices; k++) {
            reading.measure(paper, paper.code[k]);
            filling.costs[k] = reading.cost;
            filling.lengths[k] = reading.length;
        }
        filling.solve(paper.notices, l);
        return what == 0 ? filling.bestSet : filling.bestCost;
    }

    // ---- what was told

    public int tell(int i, int code, int answered) {
        if (!paper.hasReader(i) || !paper.isCode(code) || !isEither(answered)) {
            return BAD;
        }
        return hearsay.add(i, code, answered) ? hearsay.size : FULL;
    }

    public int forget() {
        int size = hearsay.size;
        hearsay.clear();
        return size;
    }

    public int taken(int w) {
        if (!paper.hasWord(w)) {
            return BAD;
        }
        draft.copyFrom(paper);
        int bits = 0;
        for (int b = 0; b < MEANINGS; b++) {
            draft.takenFor[w] = b;
            if (hearsay.liars(draft, reading) == 0) {
                bits |= 1 << b;
            }
        }
        return bits;
    }

    public int speaks() {
        int everybody = (1 << paper.readers) - 1;
        return everybody & ~hearsay.liars(paper, reading);
    }

    public int odds(int k, int x, int part) {
        if (!paper.hasNotice(k) || !isWithin(x, 0, 10) || !isEither(part)) {
            return BAD;
        }
        int all = 1;
        int missed = 1;
        int answerers = Integer.bitCount(answerersOf(paper.code[k]));
        for (int n = 0; n < answerers; n++) {
            all *= 10;
            missed *= 10 - x;
        }
        int above = all - missed;
        int divisor = commonDivisor(all, above);
        return (part == 0 ? above : all) / divisor;
    }

    public int run(int k, int x, int y) {
        if (!paper.hasNotice(k) || !isWithin(x, 0, 10) || !isWithin(y, 1, 9)) {
            return BAD;
        }
        return answerersOf(paper.code[k]) == 0 ? NONE : daysToRun(x, y);
    }

    public int wanted() {
        int bits = (1 << MEANINGS) - 1;
        for (int i = 0; i < paper.readers; i++) {
            bits &= ~(1 << paper.want[i]);
        }
        return bits;
    }

    public int moods(int what) {
        if (!isEither(what)) {
            return BAD;
        }
        int best = 0;
        for (int w = 1; w < paper.words; w++) {
            if (noticesWith(w) > noticesWith(best)) {
                best = w;
            }
        }
        return what == 0 ? best : noticesWith(best);
    }

    public int month(int z, int n, int what) {
        if (!isWithin(z, 0, HIGHEST_SEED) || !isWithin(n, 1, MOST_MONTH_DAYS) || !isEither(what)) {
            return BAD;
        }
        int answersInAll = 0;
        int daysOfOne = 0;
        for (int day = 0; day < n; day++) {
            drawNotice(z, day);
            int answerers = Integer.bitCount(paper.answerers(reading));
            answersInAll += answerers;
            daysOfOne += answerers == 1 ? 1 : 0;
        }
        return what == 0 ? answersInAll : daysOfOne;
    }

    // ---- kept

    public int keep() {
        return kept.push(paper) ? kept.size : FULL;
    }

    public int back() {
        if (!kept.popInto(paper)) {
            return NO;
        }
        changes.clear();
        return kept.size;
    }

    public int count(int what) {
        switch (what) {
            case 0:
                return paper.words;
            case 1:
                return paper.readers;
            case 2:
                return paper.notices;
            case 3:
                return hearsay.size;
            case 4:
                return changes.size;
            case 5:
                return kept.size;
            case 6:
                return text.length;
            default:
                return BAD;
        }
    }

    // ---- helpers

    private static boolean isWithin(int number, int least, int most) {
        return number >= least && number <= most;
    }

    private static boolean isEither(int number) {
        return number == 0 || number == 1;
    }

    private int answerersOf(int code) {
        reading.measure(paper, code);
        return paper.answerers(reading);
    }

    private int nearTo(int k) {
        int bits = 0;
        for (int other = 0; other < paper.notices; other++) {
            if (isNear(paper.code[k], paper.code[other])) {
                bits |= 1 << other;
            }
        }
        return bits;
    }

    private int nearPairs() {
        int sides = 0;
        for (int k = 0; k < paper.notices; k++) {
            sides += Integer.bitCount(nearTo(k));
        }
        return sides / 2;
    }

    private static boolean isNear(int one, int other) {
        int unlike = 0;
        for (int unit = HIGHEST_UNIT; unit > 0; unit /= 10) {
            int a = one / unit % 10;
            int b = other / unit % 10;
            // No WORD has the figure 0: one of two figures is 0 only where one NOTICE is longer.
            if ((a == 0) != (b == 0)) {
                return false;
            }
            unlike += a == b ? 0 : 1;
        }
        return unlike == 1;
    }

    private int noticesWith(int w) {
        int many = 0;
        for (int k = 0; k < paper.notices; k++) {
            reading.measure(paper, paper.code[k]);
            many += reading.seen >> w & 1;
        }
        return many;
    }

    /** Whole numbers alone, since a chance just at y of ten must not be lost by rounding. */
    private static int daysToRun(int x, int y) {
        long all = 1;
        long missed = 1;
        for (int day = 1; day <= MOST_RUN_DAYS; day++) {
            all *= 10;
            missed *= 10 - x;
            if (missed * 10 <= all * (10 - y)) {
                return day;
            }
        }
        return NONE;
    }

    private static int commonDivisor(int one, int other) {
        int high = one;
        int low = other;
        for (int step = 0; step < 64 && low != 0; step++) {
            int rest = high % low;
            high = low;
            low = rest;
        }
        return high == 0 ? 1 : high;
    }

    private void drawNotice(int z, int day) {
        // The square needs a long: x goes up to some 79 million.
        long x = 7919L * z + 6151L * day + 1;
        int draw = (int) (x * x % 65521);
        int length = draw % 4 + 1;
        int rest = draw;
        reading.clear();
        for (int k = 0; k < length && paper.words > 0; k++) {
            rest /= 4;
            reading.append(paper, rest % paper.words);
        }
    }

    /** THE TEXT, and its reading into a PAPER. */
    private static final class Text {
        final char[] letters = new char[MOST_LETTERS];
        int length = 0;

        void clear() {
            length = 0;
        }

        boolean append(int letter) {
            if (length >= letters.length) {
                return false;
            }
            letters[length] = (char) letter;
            length++;
            return true;
        }

        void fill(String whole) {
            clear();
            for (int at = 0; at < whole.length(); at++) {
                append(whole.charAt(at));
            }
        }

        /** Answers where the first ITEM that is not so begins; those ahead of it stand in the draft. */
        int proofread(Paper draft) {
            draft.clear();
            int at = 0;
            for (int item = 0; item < MOST_LETTERS && at < length; item++) {
                int next = readItem(at, draft);
                if (next == NONE) {
                    return at;
                }
                at = next;
            }
            return NONE;
        }

        /** The readers of ITEMS answer the place behind the ; or NONE. */
        private int readItem(int at, Paper draft) {
            if (hasAt(at, 'w')) {
                return readWord(at, draft);
            }
            if (hasAt(at, 'r')) {
                return readReader(at, draft);
            }
            return hasAt(at, 'n') ? readNotice(at, draft) : NONE;
        }

        private int readWord(int at, Paper draft) {
            int cost = figureAt(at + 1);
            int meaning = figureAt(at + 3);
            int takenFor = figureAt(at + 5);
            boolean told = cost >= 1 && hasAt(at + 2, ',') && meaning >= 0
                    && hasAt(at + 4, ',') && takenFor >= 0 && hasAt(at + 6, ';');
            return told && draft.addWord(cost, meaning, takenFor) ? at + 7 : NONE;
        }

        private int readReader(int at, Paper draft) {
            int kind = figureAt(at + 1);
            int want = figureAt(at + 3);
            boolean told = isWithin(kind, PLAIN, POLICE) && hasAt(at + 2, ',')
                    && want >= 0 && hasAt(at + 4, ';');
            return told && draft.addReader(kind, want) ? at + 5 : NONE;
        }

        private int readNotice(int at, Paper draft) {
            int code = 0;
            int end = at + 1;
            for (int n = 0; n < LONGEST_NOTICE && draft.hasWord(figureAt(end)); n++) {
                code = code * 10 + figureAt(end) + 1;
                end++;
            }
            boolean told = code > 0 && hasAt(end, ';');
            return told && draft.addNotice(code) ? end + 1 : NONE;
        }

        private boolean hasAt(int at, char letter) {
            return at >= 0 && at < length && letters[at] == letter;
        }

        private int figureAt(int at) {
            if (at < 0 || at >= length || letters[at] < '0' || letters[at] > '9') {
                return NONE;
            }
            return letters[at] - '0';
        }
    }

    /** WORDS, READERS and NOTICES as they stand. */
    private static final class Paper {
        final int[] cost = new int[MOST_WORDS];
        final int[] meaning = new int[MOST_WORDS];
        final int[] takenFor = new int[MOST_WORDS];
        final int[] kind = new int[MOST_READERS];
        final int[] want = new int[MOST_READERS];
        final int[] code = new int[MOST_NOTICES];
        int words = 0;
        int readers = 0;
        int notices = 0;

        void clear() {
            words = 0;
            readers = 0;
            notices = 0;
        }

        void copyFrom(Paper other) {
            System.arraycopy(other.cost, 0, cost, 0, MOST_WORDS);
            System.arraycopy(other.meaning, 0, meaning, 0, MOST_WORDS);
            System.arraycopy(other.takenFor, 0, takenFor, 0, MOST_WORDS);
            System.arraycopy(other.kind, 0, kind, 0, MOST_READERS);
            System.arraycopy(other.want, 0, want, 0, MOST_READERS);
            System.arraycopy(other.code, 0, code, 0, MOST_NOTICES);
            words = other.words;
            readers = other.readers;
            notices = other.notices;
        }

        boolean hasWord(int w) {
            return w >= 0 && w < words;
        }

        boolean hasReader(int i) {
            return i >= 0 && i < readers;
        }

        boolean hasNotice(int k) {
            return k >= 0 && k < notices;
        }

        boolean isCode(int number) {
            if (!isWithin(number, 1, HIGHEST_CODE)) {
                return false;
            }
            int rest = number;
            for (int n = 0; n < LONGEST_NOTICE && rest > 0; n++) {
                if (!hasWord(rest % 10 - 1)) {
                    return false;
                }
                rest /= 10;
            }
            return true;
        }

        boolean addWord(int itsCost, int itsMeaning, int itsTakenFor) {
            if (words >= MOST_WORDS) {
                return false;
            }
            cost[words] = itsCost;
            meaning[words] = itsMeaning;
            takenFor[words] = itsTakenFor;
            words++;
            return true;
        }

        boolean addReader(int itsKind, int itsWant) {
            if (readers >= MOST_READERS) {
                return false;
            }
            kind[readers] = itsKind;
            want[readers] = itsWant;
            readers++;
            return true;
        }

        boolean addNotice(int itsCode) {
            if (notices >= MOST_NOTICES) {
                return false;
            }
            code[notices] = itsCode;
            notices++;
            return true;
        }

        void removeNotice(int k) {
            if (!hasNotice(k)) {
                return;
            }
            for (int n = k + 1; n < notices; n++) {
                code[n - 1] = code[n];
            }
            notices--;
        }

        boolean isAnsweredBy(int i, Reading what) {
            return hasReader(i) && what.byKind(kind[i]) == want[i];
        }

        int answerers(Reading what) {
            int bits = 0;
            for (int i = 0; i < readers; i++) {
                if (isAnsweredBy(i, what)) {
                    bits |= 1 << i;
                }
            }
            return bits;
        }
    }

    /** One NOTICE added up WORD by WORD, so that what each KIND reads in it is at hand. */
    private static final class Reading {
        int code = 0;
        int length = 0;
        int cost = 0;
        int seen = 0;
        int plain = 0;
        int knowing = 0;
        int fond = 0;

        void clear() {
            code = 0;
            length = 0;
            cost = 0;
            seen = 0;
            plain = 0;
            knowing = 0;
            fond = 0;
        }

        void measure(Paper paper, int itsCode) {
            clear();
            for (int unit = HIGHEST_UNIT; unit > 0; unit /= 10) {
                append(paper, itsCode / unit % 10 - 1);
            }
        }

        void append(Paper paper, int w) {
            extend(this, paper, w);
        }

        /** The shorter one may be this one: so length is first, and seen is behind cost. */
        void extend(Reading shorter, Paper paper, int w) {
            if (!paper.hasWord(w)) {
                return;
            }
            int takenFor = paper.takenFor[w];
            length = shorter.length + 1;
            code = shorter.code * 10 + w + 1;
            cost = shorter.cost + paper.cost[w] + (shorter.seen >> w & 1);
            seen = shorter.seen | 1 << w;
            plain = shorter.plain + paper.meaning[w];
            knowing = shorter.knowing + takenFor;
            fond = shorter.fond + takenFor * length;
        }

        int byKind(int kind) {
            switch (kind) {
                case PLAIN:
                    return plain % 10;
                case KNOWING:
                    return knowing % 10;
                case FOND:
                    return fond % 10;
                default:
                    return (plain + knowing) % 10;
            }
        }
    }

    /** NOTICES and what WORDS are TAKEN for, as they stood: the latest is given back first. */
    private static final class Shelf {
        private static final int CODES_AT = MOST_WORDS;
        private static final int NOTICES_AT = CODES_AT + MOST_NOTICES;
        private static final int ROW = NOTICES_AT + 1;

        private final int most;
        private final int[] rows;
        int size = 0;

        Shelf(int places) {
            most = Math.max(places, 1);
            rows = new int[most * ROW];
        }

        void clear() {
            size = 0;
        }

        boolean push(Paper paper) {
            if (size >= most) {
                return false;
            }
            int at = size * ROW;
            System.arraycopy(paper.takenFor, 0, rows, at, MOST_WORDS);
            System.arraycopy(paper.code, 0, rows, at + CODES_AT, MOST_NOTICES);
            rows[at + NOTICES_AT] = paper.notices;
            size++;
            return true;
        }

        /** A full shelf lets its oldest go. */
        void pushForgetful(Paper paper) {
            if (size >= most) {
                System.arraycopy(rows, ROW, rows, 0, (most - 1) * ROW);
                size = most - 1;
            }
            push(paper);
        }

        boolean popInto(Paper paper) {
            if (size <= 0) {
                return false;
            }
            size--;
            int at = size * ROW;
            System.arraycopy(rows, at, paper.takenFor, 0, MOST_WORDS);
            System.arraycopy(rows, at + CODES_AT, paper.code, 0, MOST_NOTICES);
            paper.notices = rows[at + NOTICES_AT];
            return true;
        }
    }

    /** What is TOLD. */
    private static final class Hearsay {
        private final int[] who = new int[MOST_TOLD];
        private final int[] code = new int[MOST_TOLD];
        private final int[] answered = new int[MOST_TOLD];
        int size = 0;

        void clear() {
            size = 0;
        }

        boolean add(int i, int itsCode, int itsAnswered) {
            if (size >= MOST_TOLD) {
                return false;
            }
            who[size] = i;
            code[size] = itsCode;
            answered[size] = itsAnswered;
            size++;
            return true;
        }

        /** READERS (bits) of whom something is TOLD that is not so by this paper. */
        int liars(Paper paper, Reading scratch) {
            int bits = 0;
            for (int t = 0; t < size; t++) {
                scratch.measure(paper, code[t]);
                if (paper.isAnsweredBy(who[t], scratch) != (answered[t] == 1)) {
                    bits |= 1 << who[t];
                }
            }
            return bits;
        }
    }

    /** The CHEAPEST NOTICE for a READER. */
    private static final class Search {
        private static final int BEYOND_ANY_COST = 1000;

        private final Reading[] rows = new Reading[LONGEST_SOUGHT + 1];
        private int aim = 0;
        int bestCode = 0;
        int bestCost = 0;

        Search() {
            for (int depth = 0; depth < rows.length; depth++) {
                rows[depth] = new Reading();
            }
        }

        /** Shorter ones first, then by CODE: so a later one is better only if it costs less. */
        void seek(Paper paper, int i) {
            aim = i;
            bestCode = 0;
            bestCost = BEYOND_ANY_COST;
            rows[0].clear();
            for (int length = 1; length <= LONGEST_SOUGHT; length++) {
                lengthen(this, paper, 0, length);
            }
        }

        private static void lengthen(Search search, Paper paper, int depth, int length) {
            if (depth >= length || depth >= LONGEST_SOUGHT) {
                return;
            }
            Reading longer = search.rows[depth + 1];
            int left = length - depth - 1;
            for (int w = 0; w < paper.words; w++) {
                longer.extend(search.rows[depth], paper, w);
                // Each WORD that is still to come costs 1 at least.
                if (longer.cost + left >= search.bestCost) {
                    continue;
                }
                if (left > 0) {
                    lengthen(search, paper, depth + 1, length);
                } else if (search.isFound(paper, longer)) {
                    search.bestCode = longer.code;
                    search.bestCost = longer.cost;
                }
            }
        }

        private boolean isFound(Paper paper, Reading what) {
            return paper.isAnsweredBy(aim, what) && paper.answerers(what) == 1 << aim;
        }
    }

    /** NOTICES to READERS. */
    private static final class Matching {
        private static final int SETS = 1 << MOST_READERS;

        final int[] answered = new int[MOST_NOTICES];
        final int[] owner = new int[MOST_NOTICES];
        /** For each NOTICE and each set of READERS who are gone: how many can be matched from it on. */
        private final int[] most = new int[(MOST_NOTICES + 1) * SETS];

        int howMany() {
            return most[0];
        }

        void solve(int notices, int readers) {
            if (!isWithin(notices, 0, MOST_NOTICES) || !isWithin(readers, 0, MOST_READERS)) {
                return;
            }
            int sets = 1 << readers;
            for (int gone = 0; gone < sets; gone++) {
                most[notices * SETS + gone] = 0;
            }
            for (int k = notices - 1; k >= 0; k--) {
                for (int gone = 0; gone < sets; gone++) {
                    most[k * SETS + gone] = mostFrom(k, gone, readers);
                }
            }
            handOut(notices, readers);
        }

        private int mostFrom(int k, int gone, int readers) {
            int best = after(k, gone);
            for (int i = 0; i < readers; i++) {
                if (isFree(k, i, gone)) {
                    best = Math.max(best, 1 + after(k, gone | 1 << i));
                }
            }
            return best;
        }

        private void handOut(int notices, int readers) {
            int gone = 0;
            for (int k = 0; k < notices; k++) {
                owner[k] = firstOwner(k, gone, readers);
                if (owner[k] != NONE) {
                    gone |= 1 << owner[k];
                }
            }
        }

        private int firstOwner(int k, int gone, int readers) {
            for (int i = 0; i < readers; i++) {
                if (isFree(k, i, gone) && 1 + after(k, gone | 1 << i) == most[k * SETS + gone]) {
                    return i;
                }
            }
            return NONE;
        }

        private boolean isFree(int k, int i, int gone) {
            return (answered[k] >> i & 1) == 1 && (gone >> i & 1) == 0;
        }

        private int after(int k, int gone) {
            return most[(k + 1) * SETS + gone];
        }
    }

    /** A COLUMN filled by PRICE. */
    private static final class Column {
        final int[] costs = new int[MOST_NOTICES];
        final int[] lengths = new int[MOST_NOTICES];
        int bestSet = 0;
        int bestCost = 0;

        /** From the lowest set up: so a later one is better only if it is worth more. */
        void solve(int notices, int room) {
            bestSet = 0;
            bestCost = 0;
            for (int set = 1; set < 1 << Math.min(notices, MOST_NOTICES); set++) {
                int worth = together(costs, set);
                if (worth > bestCost && together(lengths, set) <= room) {
                    bestSet = set;
                    bestCost = worth;
                }
            }
        }

        private static int together(int[] row, int set) {
            int sum = 0;
            for (int k = 0; k < row.length; k++) {
                sum += (set >> k & 1) == 1 ? row[k] : 0;
            }
            return sum;
        }
    }
}
