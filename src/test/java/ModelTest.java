import java.util.ArrayDeque;
import java.util.ArrayList;
import java.util.Deque;
import java.util.List;
import java.util.Random;
import java.util.regex.Matcher;
import java.util.regex.Pattern;

/**
 * Long runs of calls, each answer held against a second program, which is written from the
 * document in the dullest way: whole texts, lists, all ways tried.
 */
public final class ModelTest {
    private static final int BAD = -1, NO = -2, FULL = -3, NONE = -4;

    private record State(List<String> notices, List<Integer> taken) { }

    private record Heard(int i, String notice, boolean answered) { }

    /** Notices are texts of word figures (0 to 7) here, never codes. */
    private static final class Model {
        String text = "";
        List<int[]> words = new ArrayList<>();
        List<int[]> readers = new ArrayList<>();
        List<String> notices = new ArrayList<>();
        List<Integer> taken = new ArrayList<>();
        Deque<State> changes = new ArrayDeque<>();
        Deque<State> kept = new ArrayDeque<>();
        List<Heard> told = new ArrayList<>();

        Model() {
            text = "w3,1,4;w2,5,5;w4,2,7;w1,0,3;w5,6,1;r0,6;r1,9;r2,4;r3,8;r1,2;n01;n24;n130;n3;";
            lay();
            text = "";
        }

        State state() {
            return new State(new ArrayList<>(notices), new ArrayList<>(taken));
        }

        void restore(State s) {
            notices = new ArrayList<>(s.notices());
            taken = new ArrayList<>(s.taken());
        }

        int write(int letter) {
            if (letter < 32 || letter > 126) {
                return BAD;
            }
            if (text.length() == 200) {
                return FULL;
            }
            text += (char) letter;
            return text.length();
        }

        int wipe() {
            int n = text.length();
            text = "";
            return n;
        }

        static boolean isItem(String item, int words, int readers, int notices) {
            if (item.matches("w[1-9],[0-9],[0-9];")) {
                return words < 8;
            }
            if (item.matches("r[0-3],[0-9];")) {
                return readers < 6;
            }
            return words > 0 && item.matches("n[0-" + (words - 1) + "]{1,5};") && notices < 6;
        }

        int fault() {
            Matcher m = Pattern.compile("[^;]*(;|$)").matcher(text);
            int[] n = new int[128];
            int at = 0;
            while (at < text.length() && m.find(at)) {
                if (!isItem(m.group(), n['w'], n['r'], n['n'])) {
                    return at;
                }
                n[text.charAt(at)]++;
                at = m.end();
            }
            return NONE;
        }

        int lay() {
            if (fault() != NONE || !text.contains("w")) {
                return NO;
            }
            words.clear();
            readers.clear();
            notices.clear();
            taken.clear();
            for (String item : text.split(";")) {
                String tells = item.substring(1);
                if (item.charAt(0) == 'n') {
                    notices.add(tells);
                    continue;
                }
                String[] parts = tells.split(",");
                if (item.charAt(0) == 'r') {
                    readers.add(new int[] {Integer.parseInt(parts[0]), Integer.parseInt(parts[1])});
                } else {
                    words.add(new int[] {Integer.parseInt(parts[0]), Integer.parseInt(parts[1])});
                    taken.add(Integer.parseInt(parts[2]));
                }
            }
            changes.clear();
            kept.clear();
            told.clear();
            return words.size();
        }

        boolean w(int n) {
            return n >= 0 && n < words.size();
        }

        boolean r(int n) {
            return n >= 0 && n < readers.size();
        }

        boolean n(int n) {
            return n >= 0 && n < notices.size();
        }

        boolean in(int n, int a, int b) {
            return n >= a && n <= b;
        }

        String noticeOf(int code) {
            String figures = Integer.toString(code);
            if (!figures.matches("[1-" + words.size() + "]{1,5}")) {
                return null;
            }
            StringBuilder s = new StringBuilder();
            for (char c : figures.toCharArray()) {
                s.append((char) (c - 1));
            }
            return s.toString();
        }

        int codeOf(String notice) {
            StringBuilder s = new StringBuilder();
            for (char c : notice.toCharArray()) {
                s.append((char) (c + 1));
            }
            return Integer.parseInt(s.toString());
        }

        int readsIn(int i, String notice, List<Integer> taken) {
            int plain = 0;
            int knowing = 0;
            int fond = 0;
            for (int at = 0; at < notice.length(); at++) {
                int w = notice.charAt(at) - '0';
                plain += words.get(w)[1];
                knowing += taken.get(w);
                fond += taken.get(w) * (at + 1);
            }
            return new int[] {plain % 10, knowing % 10, fond % 10, (plain % 10 + knowing % 10) % 10}[readers.get(i)[0]];
        }

        boolean answersTo(int i, String notice, List<Integer> taken) {
            return readsIn(i, notice, taken) == readers.get(i)[1];
        }

        int answerers(String notice) {
            int bits = 0;
            for (int i = 0; i < readers.size(); i++) {
                bits += answersTo(i, notice, taken) ? 1 << i : 0;
            }
            return bits;
        }

        int costOf(String notice) {
            int sum = 0;
            for (int at = 0; at < notice.length(); at++) {
                sum += words.get(notice.charAt(at) - '0')[0];
                sum += notice.substring(0, at).indexOf(notice.charAt(at)) >= 0 ? 1 : 0;
            }
            return sum;
        }

        int word(int w, int what) {
            if (!w(w) || !in(what, 0, 2)) {
                return BAD;
            }
            return what == 2 ? taken.get(w) : words.get(w)[what];
        }

        int reader(int i, int what) {
            return !r(i) || !in(what, 0, 1) ? BAD : readers.get(i)[what];
        }

        int notice(int k, int what) {
            if (!n(k) || !in(what, 0, 3)) {
                return BAD;
            }
            String s = notices.get(k);
            return new int[] {codeOf(s), costOf(s), s.length(), answerers(s)}[what];
        }

        void change() {
            changes.addLast(state());
            if (changes.size() > 8) {
                changes.removeFirst();
            }
        }

        int put(int code) {
            String s = noticeOf(code);
            if (s == null) {
                return BAD;
            }
            if (notices.size() == 6) {
                return FULL;
            }
            change();
            notices.add(s);
            return notices.size();
        }

        int take(int k) {
            if (!n(k)) {
                return BAD;
            }
            change();
            notices.remove(k);
            return notices.size();
        }

        int takeFor(int w, int b) {
            if (!w(w) || !in(b, 0, 9)) {
                return BAD;
            }
            change();
            return taken.set(w, b);
        }

        int undo() {
            if (changes.isEmpty()) {
                return NO;
            }
            restore(changes.removeLast());
            return changes.size();
        }

        int reads(int i, int code) {
            return !r(i) || noticeOf(code) == null ? BAD : readsIn(i, noticeOf(code), taken);
        }

        int answers(int code) {
            return noticeOf(code) == null ? BAD : answerers(noticeOf(code));
        }

        int price(int code) {
            return noticeOf(code) == null ? BAD : costOf(noticeOf(code));
        }

        int cheapest(int i, int what) {
            if (!r(i) || !in(what, 0, 1)) {
                return BAD;
            }
            int bestCost = 999;
            int bestCode = NONE;
            // Fewer words have the lesser code, so the codes in their order do for both.
            for (int code = 1; code <= 8888; code++) {
                String s = noticeOf(code);
                if (s != null && answerers(s) == 1 << i && costOf(s) < bestCost) {
                    bestCost = costOf(s);
                    bestCode = code;
                }
            }
            return what == 0 || bestCode == NONE ? bestCode : bestCost;
        }

        int twofold() {
            int bits = 0;
            for (int k = 0; k < notices.size(); k++) {
                int a = 0;
                int b = 0;
                for (char c : notices.get(k).toCharArray()) {
                    a += words.get(c - '0')[1];
                    b += taken.get(c - '0');
                }
                bits += (a - b) % 10 != 0 ? 1 << k : 0;
            }
            return bits;
        }

        /** All ways in their order (6 is nobody), the first with the most. */
        int[] bestWay(int[] way, int k, int[] best) {
            if (k == way.length) {
                return best == null || matchesIn(way) > matchesIn(best) ? way.clone() : best;
            }
            int[] found = best;
            for (int i = 0; i <= 6; i++) {
                boolean free = i == 6 || r(i) && answersTo(i, notices.get(k), taken);
                for (int before = 0; before < k && free; before++) {
                    free = i == 6 || way[before] != i;
                }
                if (free) {
                    way[k] = i;
                    found = bestWay(way, k + 1, found);
                }
            }
            return found;
        }

        int matchesIn(int[] way) {
            int n = 0;
            for (int i : way) {
                n += i < 6 ? 1 : 0;
            }
            return n;
        }

        int matched(int k) {
            if (k != -1 && !n(k)) {
                return BAD;
            }
            int[] way = bestWay(new int[notices.size()], 0, null);
            return k == -1 ? matchesIn(way) : way[k] == 6 ? NONE : way[k];
        }

        boolean areNear(int a, int b) {
            String s = notices.get(a);
            String t = notices.get(b);
            int unlike = 0;
            for (int at = 0; at < s.length() && s.length() == t.length(); at++) {
                unlike += s.charAt(at) != t.charAt(at) ? 1 : 0;
            }
            return unlike == 1;
        }

        int near(int k) {
            if (k != -1 && !n(k)) {
                return BAD;
            }
            int bits = 0;
            int twos = 0;
            for (int a = 0; a < notices.size(); a++) {
                bits += k != -1 && areNear(a, k) ? 1 << a : 0;
                for (int b = 0; b < a; b++) {
                    twos += areNear(a, b) ? 1 : 0;
                }
            }
            return k == -1 ? twos : bits;
        }

        int column(int l, int what) {
            if (!in(l, 0, 30) || !in(what, 0, 1)) {
                return BAD;
            }
            int best = 0;
            int bestCost = 0;
            for (int set = 0; set < 1 << notices.size(); set++) {
                int cost = 0;
                int length = 0;
                for (int k = 0; k < notices.size(); k++) {
                    cost += (set >> k) % 2 * costOf(notices.get(k));
                    length += (set >> k) % 2 * notices.get(k).length();
                }
                if (length <= l && cost > bestCost) {
                    best = set;
                    bestCost = cost;
                }
            }
            return what == 0 ? best : bestCost;
        }

        int tell(int i, int code, int answered) {
            if (!r(i) || noticeOf(code) == null || !in(answered, 0, 1)) {
                return BAD;
            }
            if (told.size() == 8) {
                return FULL;
            }
            told.add(new Heard(i, noticeOf(code), answered == 1));
            return told.size();
        }

        int forget() {
            int n = told.size();
            told.clear();
            return n;
        }

        int taken(int w) {
            if (!w(w)) {
                return BAD;
            }
            int bits = 0;
            for (int b = 0; b < 10; b++) {
                List<Integer> other = new ArrayList<>(taken);
                other.set(w, b);
                boolean so = true;
                for (Heard h : told) {
                    so &= answersTo(h.i(), h.notice(), other) == h.answered();
                }
                bits += so ? 1 << b : 0;
            }
            return bits;
        }

        int speaks() {
            int bits = 0;
            for (int i = 0; i < readers.size(); i++) {
                boolean so = true;
                for (Heard h : told) {
                    so &= h.i() != i || answersTo(i, h.notice(), taken) == h.answered();
                }
                bits += so ? 1 << i : 0;
            }
            return bits;
        }

        int odds(int k, int x, int part) {
            if (!n(k) || !in(x, 0, 10) || !in(part, 0, 1)) {
                return BAD;
            }
            int m = Integer.bitCount(answerers(notices.get(k)));
            int below = (int) Math.round(Math.pow(10, m));
            int above = below - (int) Math.round(Math.pow(10 - x, m));
            for (int p : new int[] {2, 5}) {
                while (below % p == 0 && above % p == 0 && below > 1) {
                    below /= p;
                    above /= p;
                }
            }
            return part == 0 ? above : below;
        }

        int run(int k, int x, int y) {
            if (!n(k) || !in(x, 0, 10) || !in(y, 1, 9)) {
                return BAD;
            }
            for (int days = 1; days <= 15 && answerers(notices.get(k)) != 0; days++) {
                java.math.BigDecimal miss = java.math.BigDecimal.valueOf(10 - x, 1).pow(days);
                if (java.math.BigDecimal.ONE.subtract(miss).compareTo(java.math.BigDecimal.valueOf(y, 1)) >= 0) {
                    return days;
                }
            }
            return NONE;
        }

        int wanted() {
            int bits = 0;
            for (int b = 0; b < 10; b++) {
                int want = b;
                bits += readers.stream().noneMatch(r -> r[1] == want) ? 1 << b : 0;
            }
            return bits;
        }

        int moods(int what) {
            if (!in(what, 0, 1)) {
                return BAD;
            }
            int best = -1;
            int most = -1;
            for (int w = 0; w < words.size(); w++) {
                String figure = Integer.toString(w);
                int n = (int) notices.stream().filter(s -> s.contains(figure)).count();
                if (n > most) {
                    best = w;
                    most = n;
                }
            }
            return what == 0 ? best : most;
        }

        int month(int z, int n, int what) {
            if (!in(z, 0, 9999) || !in(n, 1, 40) || !in(what, 0, 1)) {
                return BAD;
            }
            int often = 0;
            int ones = 0;
            for (long day = 0; day < n; day++) {
                long x = 7919L * z + 6151 * day + 1;
                long draw = (x % 65521) * (x % 65521) % 65521;
                StringBuilder s = new StringBuilder();
                for (int k = 0; k < draw % 4 + 1; k++) {
                    s.append((draw >> 2 * k + 2) % words.size());
                }
                int many = Integer.bitCount(answerers(s.toString()));
                often += many;
                ones += many == 1 ? 1 : 0;
            }
            return what == 0 ? often : ones;
        }

        int keep() {
            if (kept.size() == 2) {
                return FULL;
            }
            kept.addLast(state());
            return kept.size();
        }

        int back() {
            if (kept.isEmpty()) {
                return NO;
            }
            restore(kept.removeLast());
            changes.clear();
            return kept.size();
        }

        int count(int what) {
            if (!in(what, 0, 6)) {
                return BAD;
            }
            return new int[] {words.size(), readers.size(), notices.size(), told.size(), changes.size(), kept.size(),
                text.length()}[what];
        }
    }

    private static final Random RANDOM = new Random(20261118);
    private static BackColumns x;
    private static Model m;
    private static int run = 0;
    private static int calls = 0;
    private static int wrong = 0;
    private static List<String> log = new ArrayList<>();

    private static void same(String call, int got, int want) {
        calls++;
        log.add(call + " = " + got);
        if (got != want) {
            wrong++;
            if (wrong <= 10) {
                System.out.println("run " + run + ": " + call + " answered " + got + ", due is " + want);
            }
        }
    }

    /** Mostly a to b, now and then one beside it or far off. */
    private static int some(int a, int b) {
        int dice = RANDOM.nextInt(40);
        if (dice == 0) {
            return a - 1;
        }
        if (dice == 1) {
            return b + 1;
        }
        if (dice == 2) {
            return RANDOM.nextInt();
        }
        return a + RANDOM.nextInt(Math.max(1, b - a + 1));
    }

    private static int someCode() {
        int dice = RANDOM.nextInt(40);
        if (dice == 0) {
            return RANDOM.nextInt(100000);
        }
        if (dice == 1) {
            return RANDOM.nextInt();
        }
        int code = 0;
        for (int n = 1 + RANDOM.nextInt(dice == 2 ? 6 : 5); n > 0; n--) {
            code = code * 10 + 1 + RANDOM.nextInt(dice == 3 ? 9 : Math.max(1, m.words.size()));
        }
        return code;
    }

    private static String someText(boolean few) {
        StringBuilder s = new StringBuilder();
        int words = few ? 1 + RANDOM.nextInt(3) : 1 + RANDOM.nextInt(8);
        int span = few ? 3 : 10;
        for (int n = 0; n < words; n++) {
            s.append('w').append(1 + RANDOM.nextInt(few ? 3 : 9)).append(',').append(RANDOM.nextInt(span)).append(',')
                .append(RANDOM.nextInt(span)).append(';');
        }
        for (int n = RANDOM.nextInt(7); n > 0; n--) {
            s.append('r').append(RANDOM.nextInt(4)).append(',').append(RANDOM.nextInt(few ? 5 : 10)).append(';');
        }
        for (int n = RANDOM.nextInt(7); n > 0; n--) {
            s.append('n');
            for (int l = 1 + RANDOM.nextInt(few ? 2 : 5); l > 0; l--) {
                s.append(RANDOM.nextInt(words));
            }
            s.append(';');
        }
        return s.toString();
    }

    private static String spoiled(String text) {
        StringBuilder s = new StringBuilder(text);
        String signs = "wrn,;0123456789 x";
        for (int n = RANDOM.nextInt(3); n >= 0 && s.length() > 0; n--) {
            int at = RANDOM.nextInt(s.length());
            char sign = signs.charAt(RANDOM.nextInt(signs.length()));
            int dice = RANDOM.nextInt(4);
            if (dice == 0) {
                s.deleteCharAt(at);
            } else if (dice == 1) {
                s.insert(at, sign);
            } else if (dice == 2) {
                s.setCharAt(at, sign);
            } else {
                s.setLength(at);
            }
        }
        return s.toString();
    }

    private static void writeText(String text) {
        same("wipe()", x.wipe(), m.wipe());
        for (char c : text.toCharArray()) {
            same("write(" + (int) c + ")", x.write(c), m.write(c));
        }
        same("fault()", x.fault(), m.fault());
        same("lay()", x.lay(), m.lay());
    }

    private static void changeSomething() {
        int w = some(0, m.words.size() - 1);
        int k = some(0, m.notices.size() - 1);
        int b = some(0, 9);
        int code = someCode();
        switch (RANDOM.nextInt(8)) {
            case 0, 1, 2 -> same("put(" + code + ")", x.put(code), m.put(code));
            case 3 -> same("take(" + k + ")", x.take(k), m.take(k));
            case 4, 5 -> same("takeFor(" + w + ", " + b + ")", x.takeFor(w, b), m.takeFor(w, b));
            case 6 -> same("undo()", x.undo(), m.undo());
            default -> {
                switch (RANDOM.nextInt(4)) {
                    case 0 -> same("keep()", x.keep(), m.keep());
                    case 1 -> same("back()", x.back(), m.back());
                    case 2 -> same("forget()", x.forget(), m.forget());
                    default -> { }
                }
            }
        }
    }

    private static void tellSomething() {
        int i = some(0, m.readers.size() - 1);
        int code = RANDOM.nextBoolean() ? someCode() : 1 + RANDOM.nextInt(Math.max(1, m.words.size()));
        // Mostly what is so, else nearly nothing would be left that a word can be taken for.
        int answered = some(0, 1);
        if (RANDOM.nextInt(4) > 0 && m.r(i) && m.noticeOf(code) != null) {
            answered = m.answersTo(i, m.noticeOf(code), m.taken) ? 1 : 0;
        }
        same("tell(" + i + ", " + code + ", " + answered + ")", x.tell(i, code, answered), m.tell(i, code, answered));
    }

    private static void ask(int which) {
        int w = some(0, m.words.size() - 1);
        int i = some(0, m.readers.size() - 1);
        int k = some(0, m.notices.size() - 1);
        int code = someCode();
        int what = some(0, 1);
        switch (which) {
            case 0 -> {
                int of = some(0, 2);
                same("word(" + w + ", " + of + ")", x.word(w, of), m.word(w, of));
            }
            case 1 -> same("reader(" + i + ", " + what + ")", x.reader(i, what), m.reader(i, what));
            case 2 -> {
                int of = some(0, 3);
                same("notice(" + k + ", " + of + ")", x.notice(k, of), m.notice(k, of));
            }
            case 3 -> same("reads(" + i + ", " + code + ")", x.reads(i, code), m.reads(i, code));
            case 4 -> same("answers(" + code + ")", x.answers(code), m.answers(code));
            case 5 -> same("price(" + code + ")", x.price(code), m.price(code));
            case 6 -> same("twofold()", x.twofold(), m.twofold());
            case 7 -> {
                int of = some(-1, m.notices.size() - 1);
                same("matched(" + of + ")", x.matched(of), m.matched(of));
            }
            case 8 -> {
                int of = some(-1, m.notices.size() - 1);
                same("near(" + of + ")", x.near(of), m.near(of));
            }
            case 9 -> {
                int l = some(0, RANDOM.nextBoolean() ? 30 : 10);
                same("column(" + l + ", " + what + ")", x.column(l, what), m.column(l, what));
            }
            case 10 -> same("taken(" + w + ")", x.taken(w), m.taken(w));
            case 11 -> same("speaks()", x.speaks(), m.speaks());
            case 12 -> {
                int by = some(0, 10);
                same("odds(" + k + ", " + by + ", " + what + ")", x.odds(k, by, what), m.odds(k, by, what));
            }
            case 13 -> {
                int by = some(0, 10);
                int y = some(1, 9);
                same("run(" + k + ", " + by + ", " + y + ")", x.run(k, by, y), m.run(k, by, y));
            }
            case 14 -> same("wanted()", x.wanted(), m.wanted());
            case 15 -> same("moods(" + what + ")", x.moods(what), m.moods(what));
            case 16 -> {
                int z = some(0, 9999);
                int n = some(1, 40);
                same("month(" + z + ", " + n + ", " + what + ")", x.month(z, n, what), m.month(z, n, what));
            }
            default -> {
                int of = some(0, 6);
                same("count(" + of + ")", x.count(of), m.count(of));
            }
        }
    }

    private static void oneRun() {
        run++;
        x = new BackColumns();
        m = new Model();
        log.clear();
        if (RANDOM.nextInt(5) > 0) {
            String text = someText(RANDOM.nextBoolean());
            writeText(RANDOM.nextInt(4) == 0 ? spoiled(text) : text);
        }
        for (int n = 0; n < 120 && log.size() < 500; n++) {
            if (RANDOM.nextInt(3) == 0) {
                changeSomething();
            }
            if (RANDOM.nextInt(12) == 0) {
                tellSomething();
            }
            ask(RANDOM.nextInt(18));
        }
        int i = some(0, m.readers.size() - 1);
        for (int what = 0; what <= 1; what++) {
            same("cheapest(" + i + ", " + what + ")", x.cheapest(i, what), m.cheapest(i, what));
        }
        if (RANDOM.nextInt(4) == 0 && log.size() < 280) {
            writeText(spoiled(someText(true)));
            ask(RANDOM.nextInt(18));
        }
    }

    public static void main(String[] args) {
        for (int n = 0; n < 1500 && wrong == 0; n++) {
            oneRun();
        }
        if (wrong != 0) {
            log.forEach(System.out::println);
        }
        System.out.println(run + " runs, " + calls + " calls, " + wrong + " answers not as due");
        if (wrong != 0) {
            System.exit(1);
        }
    }
}
