/** Each promise of the document by its number: ordinary inputs, the edges that are named, wrong inputs. */
public final class PromiseTest {
    private static final int BAD = -1, NO = -2, FULL = -3, NONE = -4;
    private static final int LOW = Integer.MIN_VALUE, HIGH = Integer.MAX_VALUE;
    private static final String FIRST =
            "w3,1,4;w2,5,5;w4,2,7;w1,0,3;w5,6,1;r0,6;r1,9;r2,4;r3,8;r1,2;n01;n24;n130;n3;";

    private static int wrong = 0;
    private static int promise = 0;

    private static void due(String call, int got, int want) {
        if (got != want) {
            wrong++;
            System.out.println("promise " + promise + ": " + call + " answered " + got + ", due is " + want);
        }
    }

    private static void write(BackColumns x, String text) {
        for (int i = 0; i < text.length(); i++) {
            x.write(text.charAt(i));
        }
    }

    private static BackColumns written(String text) {
        BackColumns x = new BackColumns();
        write(x, text);
        return x;
    }

    private static BackColumns laid(String text) {
        BackColumns x = written(text);
        if (x.lay() < 1) {
            wrong++;
            System.out.println("promise " + promise + ": not laid: " + text);
        }
        return x;
    }

    private static String state(BackColumns x) {
        StringBuilder s = new StringBuilder();
        for (int what = 0; what <= 6; what++) {
            s.append(x.count(what)).append(' ');
        }
        for (int w = 0; w < x.count(0); w++) {
            s.append('w').append(x.word(w, 0)).append(x.word(w, 1)).append(x.word(w, 2));
        }
        for (int i = 0; i < x.count(1); i++) {
            s.append('r').append(x.reader(i, 0)).append(x.reader(i, 1));
        }
        for (int k = 0; k < x.count(2); k++) {
            s.append('n').append(x.notice(k, 0));
        }
        return s.append(" speaks ").append(x.speaks()).toString();
    }

    private static void same(String what, String got, String want) {
        if (!got.equals(want)) {
            wrong++;
            System.out.println("promise " + promise + ": " + what + " is [" + got + "], due is [" + want + "]");
        }
    }

    private static void aNewObject() {
        promise = 1;
        same("a new object", state(new BackColumns()),
                "5 5 4 0 0 0 0 w314w255w427w103w561r06r19r24r38r12n12n35n241n4 speaks 31");
        same("a new object, laid by its text", state(laid(FIRST)),
                "5 5 4 0 0 0 76 w314w255w427w103w561r06r19r24r38r12n12n35n241n4 speaks 31");
        due("fault", new BackColumns().fault(), NONE);
        due("lay", new BackColumns().lay(), NO);
        due("undo", new BackColumns().undo(), NO);
        due("back", new BackColumns().back(), NO);
        BackColumns one = new BackColumns();
        one.put(1);
        one.write('w');
        due("count of another object", new BackColumns().count(2), 4);
        due("letters of another object", new BackColumns().count(6), 0);
    }

    private static void write() {
        promise = 2;
        BackColumns x = new BackColumns();
        due("write(32)", x.write(32), 1);
        due("write(126)", x.write(126), 2);
        due("write(31)", x.write(31), BAD);
        due("write(127)", x.write(127), BAD);
        due("write(LOW)", x.write(LOW), BAD);
        due("write(HIGH)", x.write(HIGH), BAD);
        due("write(65536 + 119)", x.write(65536 + 119), BAD);
        due("count(6)", x.count(6), 2);
        for (int n = 3; n <= 200; n++) {
            due("write to " + n, x.write('w'), n);
        }
        due("the 201st", x.write('w'), FULL);
        due("the 201st, no letter", x.write(0), BAD);
        due("count(6)", x.count(6), 200);
    }

    private static void wipe() {
        promise = 3;
        BackColumns x = written("abc");
        due("wipe", x.wipe(), 3);
        due("wipe again", x.wipe(), 0);
        due("count(6)", x.count(6), 0);
        due("write", x.write('w'), 1);
        due("fault", x.fault(), 0);
        x.wipe();
        due("fault of an empty text", x.fault(), NONE);
        due("the paper stays", x.count(2), 4);
    }

    private static void faultOf(String text, int want) {
        due("fault of " + text, written(text).fault(), want);
    }

    private static void fault() {
        promise = 4;
        faultOf(FIRST, NONE);
        faultOf("w1,0,0;", NONE);
        faultOf("w9,9,9;", NONE);
        faultOf("r0,0;", NONE);
        faultOf("r3,9;", NONE);
        String w = "w1,0,0;";
        for (String bad : new String[] {"w0,0,0;", "w10,0,0;", "w1,10,0;", "w1,0,10;", "w1,0;", "w1,0,0", "w1,0,0,",
            "w1 0,0;", "w1,0 0;", "w,0,0;", "w1,,0;", "w1,0,;", "w", "w-1,0,0;", "W1,0,0;", "wa,0,0;", "w1,a,0;", "w1,0,a;",
            "w:,0,0;", "w1,:,0;", "w1,0,/;", "r:,0;", "r/,0;", "r0,a;", "r0,/;", "n:;", "n/;", "na;", " w1,0,0;", ";", "x", "0",
            "r4,0;", "r0;", "r0,10;", "r00,1;", "r0,0", "r0 0;", "r,0;", "r0,;", "R0,0;", "r0,0,0;", "r", "r-1,0;",
            "n;", "n0", "n", "n1;", "n00001;", "n000000;", "n0,0;", "n0 ;", "n8;", "n9;", "N0;", "n01;", "n-0;"}) {
            faultOf(w + bad, 7);
            faultOf(w + bad + w, 7);
            faultOf(w + w + "n10;" + bad.replace("n1;", "n2;").replace("01;", "02;"), 18);
        }
        faultOf("n0;" + w, 0);
        faultOf(w + "n01;" + w, 7);
        faultOf(w + "n0;" + w + "n01;", NONE);
        faultOf(w + "n00000;", NONE);
        String eight = w.repeat(8);
        faultOf(eight + "n76543;n7;", NONE);
        faultOf(eight + w, 56);
        faultOf(eight + "n8;", 56);
        faultOf("r0,0;".repeat(6), NONE);
        faultOf("r0,0;".repeat(7), 30);
        faultOf(w + "n0;".repeat(6), NONE);
        faultOf(w + "n0;".repeat(7), 25);
        faultOf(eight + "r0,0;".repeat(6) + "n77777;".repeat(6), NONE);
        faultOf(w + "w;r;", 7);
        BackColumns x = written(w + "r");
        due("an item not ended", x.fault(), 7);
        write(x, "0,0;");
        due("and ended", x.fault(), NONE);
        due("the paper stays", x.count(0), 5);
    }

    private static void lay() {
        promise = 5;
        BackColumns x = written("w9,8,7;w1,2,3;r3,0;n10;");
        x.put(1);
        x.tell(0, 1, 1);
        x.keep();
        due("lay", x.lay(), 2);
        same("laid", state(x), "2 1 1 0 0 0 23 w987w123r30n21 speaks 1");
        due("undo", x.undo(), NO);
        due("back", x.back(), NO);
        due("lay again", x.lay(), 2);
        x.wipe();
        x.put(1);
        x.tell(0, 1, 0);
        x.keep();
        String before = state(x);
        due("lay an empty text", x.lay(), NO);
        same("nothing changed", state(x), before);
        write(x, "r0,0;");
        due("lay without a word", x.lay(), NO);
        due("count(1)", x.count(1), 1);
        due("count(3)", x.count(3), 1);
        due("count(4)", x.count(4), 1);
        due("count(5)", x.count(5), 1);
        write(x, "w1,0,0;w");
        due("lay with a fault", x.lay(), NO);
        due("reader(0, 0)", x.reader(0, 0), 3);
        x.wipe();
        write(x, "w5,0,0;");
        due("lay a word alone", x.lay(), 1);
        same("a word alone", state(x), "1 0 0 0 0 0 7 w500 speaks 0");
    }

    private static void word() {
        promise = 6;
        BackColumns x = new BackColumns();
        due("word(0, 0)", x.word(0, 0), 3);
        due("word(0, 1)", x.word(0, 1), 1);
        due("word(0, 2)", x.word(0, 2), 4);
        due("word(4, 0)", x.word(4, 0), 5);
        due("word(4, 1)", x.word(4, 1), 6);
        due("word(4, 2)", x.word(4, 2), 1);
        for (int bad : new int[] {-1, 5, 8, LOW, HIGH}) {
            due("word(" + bad + ", 0)", x.word(bad, 0), BAD);
        }
        for (int bad : new int[] {-1, 3, LOW, HIGH}) {
            due("word(0, " + bad + ")", x.word(0, bad), BAD);
        }
        x.takeFor(4, 8);
        due("word(4, 2)", x.word(4, 2), 8);
        due("word(4, 1)", x.word(4, 1), 6);
    }

    private static void reader() {
        promise = 7;
        BackColumns x = new BackColumns();
        due("reader(0, 0)", x.reader(0, 0), 0);
        due("reader(0, 1)", x.reader(0, 1), 6);
        due("reader(3, 0)", x.reader(3, 0), 3);
        due("reader(4, 0)", x.reader(4, 0), 1);
        due("reader(4, 1)", x.reader(4, 1), 2);
        for (int bad : new int[] {-1, 5, 6, LOW, HIGH}) {
            due("reader(" + bad + ", 0)", x.reader(bad, 0), BAD);
        }
        for (int bad : new int[] {-1, 2, LOW, HIGH}) {
            due("reader(0, " + bad + ")", x.reader(0, bad), BAD);
        }
    }

    private static void notice() {
        promise = 8;
        BackColumns x = new BackColumns();
        int[][] want = {{12, 5, 2, 7}, {35, 9, 2, 0}, {241, 6, 3, 25}, {4, 1, 1, 0}};
        for (int k = 0; k < 4; k++) {
            for (int what = 0; what < 4; what++) {
                due("notice(" + k + ", " + what + ")", x.notice(k, what), want[k][what]);
            }
        }
        for (int bad : new int[] {-1, 4, LOW, HIGH}) {
            due("notice(" + bad + ", 0)", x.notice(bad, 0), BAD);
            due("notice(0, " + bad + ")", x.notice(0, bad), BAD);
        }
        x.put(33333);
        due("notice(4, 0)", x.notice(4, 0), 33333);
        due("notice(4, 1)", x.notice(4, 1), 24);
        due("notice(4, 2)", x.notice(4, 2), 5);
        x.takeFor(3, 9);
        due("notice(3, 3)", x.notice(3, 3), 2);
    }

    private static void put() {
        promise = 9;
        BackColumns x = new BackColumns();
        for (int bad : new int[] {0, -1, 6, 9, 10, 16, 61, 101, 120, 11111111, 111111, 55556, 65555, 88888, 99999,
            LOW, HIGH}) {
            due("put(" + bad + ")", x.put(bad), BAD);
        }
        due("nothing to undo", x.count(4), 0);
        due("put(55555)", x.put(55555), 5);
        due("put(12)", x.put(12), 6);
        due("notice(4, 0)", x.notice(4, 0), 55555);
        due("notice(5, 0)", x.notice(5, 0), 12);
        due("put(1)", x.put(1), FULL);
        due("put(6)", x.put(6), BAD);
        due("to undo", x.count(4), 2);
        due("notices", x.count(2), 6);
        BackColumns eight = laid("w1,0,0;".repeat(8));
        due("put(88888)", eight.put(88888), 1);
        due("put(9)", eight.put(9), BAD);
        due("put(88889)", eight.put(88889), BAD);
    }

    private static void take() {
        promise = 10;
        BackColumns x = new BackColumns();
        for (int bad : new int[] {-1, 4, 6, LOW, HIGH}) {
            due("take(" + bad + ")", x.take(bad), BAD);
        }
        due("nothing to undo", x.count(4), 0);
        due("take(1)", x.take(1), 3);
        due("notice(0, 0)", x.notice(0, 0), 12);
        due("notice(1, 0)", x.notice(1, 0), 241);
        due("notice(2, 0)", x.notice(2, 0), 4);
        due("take(3)", x.take(3), BAD);
        due("take(2)", x.take(2), 2);
        due("take(0)", x.take(0), 1);
        due("notice(0, 0)", x.notice(0, 0), 241);
        due("take(0)", x.take(0), 0);
        due("take(0)", x.take(0), BAD);
        due("to undo", x.count(4), 4);
    }

    private static void takeFor() {
        promise = 11;
        BackColumns x = new BackColumns();
        for (int bad : new int[] {-1, 5, 8, LOW, HIGH}) {
            due("takeFor(" + bad + ", 0)", x.takeFor(bad, 0), BAD);
        }
        for (int bad : new int[] {-1, 10, LOW, HIGH}) {
            due("takeFor(0, " + bad + ")", x.takeFor(0, bad), BAD);
        }
        due("nothing to undo", x.count(4), 0);
        due("takeFor(0, 9)", x.takeFor(0, 9), 4);
        due("takeFor(0, 0)", x.takeFor(0, 0), 9);
        due("takeFor(0, 0)", x.takeFor(0, 0), 0);
        due("to undo", x.count(4), 3);
        due("reads(1, 1)", x.reads(1, 1), 0);
        due("reads(0, 1)", x.reads(0, 1), 1);
    }

    private static void undo() {
        promise = 12;
        BackColumns x = new BackColumns();
        String[] states = new String[12];
        for (int n = 0; n < 11; n++) {
            x.takeFor(2, 9);
            states[n] = paper(x);
            if (n % 3 == 0) {
                x.put(54321);
            } else if (n % 3 == 1) {
                x.takeFor(n % 5, 8);
            } else {
                x.take(1);
            }
        }
        due("to undo", x.count(4), 8);
        for (int n = 10; n >= 7; n--) {
            due("undo a change", x.undo(), 2 * n - 13);
            same("undone", paper(x), states[n]);
            due("undo takeFor", x.undo(), 2 * n - 14);
        }
        due("undo the ninth", x.undo(), NO);
        due("to undo", x.count(4), 0);
        x.put(1);
        x.put(6);
        x.takeFor(9, 9);
        x.take(9);
        due("a refused change is none", x.undo(), 0);
        x.put(1);
        x.tell(0, 1, 1);
        due("undo", x.undo(), 0);
        due("what is told stays", x.count(3), 1);
        due("no redo", x.undo(), NO);
    }

    private static String paper(BackColumns x) {
        StringBuilder s = new StringBuilder();
        for (int w = 0; w < x.count(0); w++) {
            s.append(x.word(w, 2)).append(' ');
        }
        for (int k = 0; k < x.count(2); k++) {
            s.append(x.notice(k, 0)).append(' ');
        }
        return s.toString();
    }

    private static void reads() {
        promise = 13;
        BackColumns x = new BackColumns();
        int[] want = {8, 9, 1, 7, 9};
        for (int i = 0; i < 5; i++) {
            due("reads(" + i + ", 3214)", x.reads(i, 3214), want[i]);
        }
        due("fond by place", x.reads(2, 14), 0);
        due("fond by place", x.reads(2, 41), 1);
        due("fond of five", x.reads(2, 44444), 5);
        due("police of five", x.reads(3, 44444), 5);
        for (int bad : new int[] {-1, 5, 6, LOW, HIGH}) {
            due("reads(" + bad + ", 1)", x.reads(bad, 1), BAD);
        }
        for (int bad : new int[] {0, -1, 6, 10, 101, 111111, 88888, LOW, HIGH}) {
            due("reads(0, " + bad + ")", x.reads(0, bad), BAD);
        }
    }

    private static void answers() {
        promise = 14;
        BackColumns x = new BackColumns();
        due("answers(12)", x.answers(12), 7);
        due("answers(35)", x.answers(35), 0);
        due("answers(241)", x.answers(241), 25);
        due("answers(5)", x.answers(5), 1);
        for (int bad : new int[] {0, -1, 6, 10, 101, 111111, 88888, LOW, HIGH}) {
            due("answers(" + bad + ")", x.answers(bad), BAD);
        }
        BackColumns six = laid("w1,3,3;r0,3;r1,3;r2,3;r3,6;r3,3;r0,3;");
        due("answers(1)", six.answers(1), 47);
        due("answers(11)", six.answers(11), 0);
    }

    private static void price() {
        promise = 15;
        BackColumns x = new BackColumns();
        due("price(1)", x.price(1), 3);
        due("price(12345)", x.price(12345), 15);
        due("price(11)", x.price(11), 7);
        due("price(111)", x.price(111), 11);
        due("price(1212)", x.price(1212), 12);
        due("price(12121)", x.price(12121), 16);
        due("price(11111)", x.price(11111), 19);
        for (int bad : new int[] {0, -1, 6, 10, 101, 111111, 88888, LOW, HIGH}) {
            due("price(" + bad + ")", x.price(bad), BAD);
        }
    }

    private static void cheapest() {
        promise = 16;
        BackColumns x = new BackColumns();
        int[][] want = {{5, 5}, {444, 5}, {1, 3}, {14, 4}, {23, 6}};
        for (int i = 0; i < 5; i++) {
            due("cheapest(" + i + ", 0)", x.cheapest(i, 0), want[i][0]);
            due("cheapest(" + i + ", 1)", x.cheapest(i, 1), want[i][1]);
        }
        BackColumns some = laid("w1,3,3;r0,3;r1,4;r0,6;r1,6;");
        due("one found", some.cheapest(0, 0), 1);
        due("then none", some.cheapest(1, 0), NONE);
        due("none", some.cheapest(2, 0), NONE);
        for (int bad : new int[] {-1, 5, 6, LOW, HIGH}) {
            due("cheapest(" + bad + ", 0)", x.cheapest(bad, 0), BAD);
        }
        for (int bad : new int[] {-1, 2, LOW, HIGH}) {
            due("cheapest(0, " + bad + ")", x.cheapest(0, bad), BAD);
        }
        due("two alike", laid("w1,0,0;r0,0;r0,0;").cheapest(0, 0), NONE);
        due("two alike", laid("w1,0,0;r0,0;r0,0;").cheapest(0, 1), NONE);
        due("two alike, wrong what", laid("w1,0,0;r0,0;r0,0;").cheapest(0, 2), BAD);
        due("another too", laid("w1,3,3;r0,3;r1,3;").cheapest(0, 0), NONE);
        due("five words", laid("w1,1,0;r0,5;").cheapest(0, 0), NONE);
        due("four words", laid("w1,1,0;r0,4;").cheapest(0, 0), 1111);
        due("four words cost", laid("w1,1,0;r0,4;").cheapest(0, 1), 7);
        due("less, though longer", laid("w9,2,0;w1,1,0;r0,2;").cheapest(0, 0), 22);
        due("less, though longer", laid("w9,2,0;w1,1,0;r0,2;").cheapest(0, 1), 3);
        due("fewer words", laid("w1,1,0;w1,1,0;w2,2,0;r0,2;").cheapest(0, 0), 3);
        due("fewer words", laid("w1,1,0;w1,1,0;w2,2,0;r0,2;").cheapest(0, 1), 2);
        due("least code", laid("w1,1,0;w1,2,0;r0,3;").cheapest(0, 0), 12);
        due("least code by place", laid("w1,0,2;w1,0,1;r2,4;").cheapest(0, 0), 12);
        due("the other way about", laid("w1,0,2;w1,0,1;r2,5;").cheapest(0, 0), 21);
        due("twice costs more", laid("w1,1,0;w1,0,0;w1,2,0;r0,2;").cheapest(0, 0), 3);
        due("twice costs more", laid("w1,1,0;w2,1,0;r0,2;").cheapest(0, 1), 3);
    }

    private static void twofold() {
        promise = 17;
        BackColumns x = new BackColumns();
        due("twofold", x.twofold(), 13);
        x.put(2);
        x.put(1);
        due("twofold", x.twofold(), 45);
        x.takeFor(0, 1);
        due("twofold", x.twofold(), 12);
        due("no notices", laid("w1,0,1;").twofold(), 0);
        due("without readers", laid("w1,0,1;n0;").twofold(), 1);
        due("modulo 10", laid("w1,0,5;n0;n00;n000;n0000;").twofold(), 5);
    }

    private static void matched() {
        promise = 18;
        BackColumns x = new BackColumns();
        due("matched(-1)", x.matched(-1), 2);
        int[] first = {0, NONE, 3, NONE};
        for (int k = 0; k < 4; k++) {
            due("matched(" + k + ")", x.matched(k), first[k]);
        }
        for (int bad : new int[] {-2, 4, 6, LOW, HIGH}) {
            due("matched(" + bad + ")", x.matched(bad), BAD);
        }
        due("no notices", laid("w1,0,0;r0,0;").matched(-1), 0);
        due("no notices", laid("w1,0,0;r0,0;").matched(0), BAD);
        due("no readers", laid("w1,0,0;n0;").matched(-1), 0);
        due("no readers", laid("w1,0,0;n0;").matched(0), NONE);
        // 0 is answered by 0 and 1, 1 by 0 alone: the lowest would cost a match.
        BackColumns way = laid("w1,1,2;w1,1,3;r0,1;r1,2;n0;n1;");
        due("way(-1)", way.matched(-1), 2);
        due("way(0)", way.matched(0), 1);
        due("way(1)", way.matched(1), 0);
        BackColumns few = laid("w1,1,1;r0,1;r1,1;n0;n0;n0;");
        due("few(-1)", few.matched(-1), 2);
        due("few(0)", few.matched(0), 0);
        due("few(1)", few.matched(1), 1);
        due("few(2)", few.matched(2), NONE);
        few.take(0);
        due("fewer(-1)", few.matched(-1), 2);
        few.take(0);
        due("one(-1)", few.matched(-1), 1);
        due("one(0)", few.matched(0), 0);
        few.take(0);
        due("none(-1)", few.matched(-1), 0);
        BackColumns all = laid("w1,1,1;r0,1;r1,1;r2,1;r3,2;r0,1;r1,1;n0;n0;n0;n0;n0;n0;");
        due("all(-1)", all.matched(-1), 6);
        for (int k = 0; k < 6; k++) {
            due("all(" + k + ")", all.matched(k), k);
        }
    }

    private static void near() {
        promise = 19;
        BackColumns x = new BackColumns();
        due("near(-1)", x.near(-1), 0);
        for (int bad : new int[] {-2, 4, 6, LOW, HIGH}) {
            due("near(" + bad + ")", x.near(bad), BAD);
        }
        BackColumns y = laid("w1,0,0;w1,0,0;w1,0,0;n0;n1;n2;n01;n00;n10;");
        int[] want = {6, 5, 3, 16, 40, 16};
        for (int k = 0; k < 6; k++) {
            due("near(" + k + ")", y.near(k), want[k]);
        }
        due("near(-1)", y.near(-1), 5);
        BackColumns z = laid("w1,0,0;w1,0,0;n01010;n01011;n11010;n01010;n0101;n1010;");
        int[] more = {6, 9, 9, 6, 0, 0};
        for (int k = 0; k < 6; k++) {
            due("near(" + k + ")", z.near(k), more[k]);
        }
        due("near(-1)", z.near(-1), 4);
        due("no notices", laid("w1,0,0;").near(-1), 0);
        due("no notices", laid("w1,0,0;").near(0), BAD);
    }

    private static void column() {
        promise = 20;
        BackColumns x = new BackColumns();
        int[] sets = {0, 8, 2, 10, 3, 6, 14, 7, 15};
        int[] worth = {0, 1, 9, 10, 14, 15, 16, 20, 21};
        for (int l = 0; l < sets.length; l++) {
            due("column(" + l + ", 0)", x.column(l, 0), sets[l]);
            due("column(" + l + ", 1)", x.column(l, 1), worth[l]);
        }
        for (int bad : new int[] {-1, 31, LOW, HIGH}) {
            due("column(" + bad + ", 0)", x.column(bad, 0), BAD);
        }
        for (int bad : new int[] {-1, 2, LOW, HIGH}) {
            due("column(0, " + bad + ")", x.column(0, bad), BAD);
        }
        due("column(0, 0) behind others", x.column(0, 0), 0);
        due("column(0, 1) behind others", x.column(0, 1), 0);
        due("of several the lowest", laid("w1,0,0;n0;n0;n0;").column(2, 0), 3);
        due("of several the lowest", laid("w1,0,0;n0;n0;n0;").column(1, 0), 1);
        due("no notices", laid("w1,0,0;").column(30, 0), 0);
        due("no notices", laid("w1,0,0;").column(30, 1), 0);
        BackColumns six = laid("w9,0,0;" + "n00000;".repeat(6));
        due("column(30, 0)", six.column(30, 0), 63);
        due("column(30, 1)", six.column(30, 1), 294);
        due("column(29, 0)", six.column(29, 0), 31);
        due("column(29, 1)", six.column(29, 1), 245);
    }

    private static void tell() {
        promise = 21;
        BackColumns x = new BackColumns();
        for (int bad : new int[] {-1, 5, 6, LOW, HIGH}) {
            due("tell(" + bad + ", 1, 0)", x.tell(bad, 1, 0), BAD);
        }
        for (int bad : new int[] {0, -1, 6, 10, 111111, LOW, HIGH}) {
            due("tell(0, " + bad + ", 0)", x.tell(0, bad, 0), BAD);
        }
        for (int bad : new int[] {-1, 2, LOW, HIGH}) {
            due("tell(0, 1, " + bad + ")", x.tell(0, 1, bad), BAD);
        }
        due("count(3)", x.count(3), 0);
        for (int n = 1; n <= 8; n++) {
            due("tell " + n, x.tell(4, 54321, n % 2), n);
        }
        due("the ninth", x.tell(0, 1, 0), FULL);
        due("the ninth, wrong", x.tell(0, 1, 2), BAD);
        due("count(3)", x.count(3), 8);
        due("no change to undo", x.count(4), 0);
    }

    private static void forget() {
        promise = 22;
        BackColumns x = new BackColumns();
        due("forget", x.forget(), 0);
        x.tell(0, 1, 1);
        x.tell(1, 1, 1);
        due("speaks", x.speaks(), 28);
        due("forget", x.forget(), 2);
        due("forget again", x.forget(), 0);
        due("count(3)", x.count(3), 0);
        due("speaks", x.speaks(), 31);
        due("tell", x.tell(0, 1, 1), 1);
    }

    private static void taken() {
        promise = 23;
        BackColumns x = new BackColumns();
        due("nothing told", x.taken(0), 1023);
        for (int bad : new int[] {-1, 5, 8, LOW, HIGH}) {
            due("taken(" + bad + ")", x.taken(bad), BAD);
        }
        x.tell(1, 12, 1);
        due("as it is", x.taken(0), 16);
        due("as it is", x.taken(1), 32);
        due("not in it", x.taken(2), 1023);
        x.tell(4, 12, 0);
        due("two told", x.taken(0), 16);
        x.forget();
        x.tell(1, 11, 0);
        due("the word twice", x.taken(0), 1023);
        x.forget();
        x.tell(1, 112, 1);
        due("4 + 4 + 5 is not 9", x.taken(1), 2);
        due("twice b + 5 is 9", x.taken(0), 1 << 2 | 1 << 7);
        due("not by that word", x.taken(2), 0);
        x.forget();
        x.tell(2, 12, 0);
        due("b + 10 is not 4", x.taken(0), 1023 & ~(1 << 4));
        due("4 + twice b is not 4", x.taken(1), 1023 & ~(1 << 0 | 1 << 5));
        due("it was told wrong", x.taken(2), 0);
        x.forget();
        x.tell(0, 5, 1);
        due("plain ones do not care", x.taken(4), 1023);
        x.tell(0, 5, 0);
        due("told both ways", x.taken(4), 0);
        due("nothing changed", x.word(4, 2), 1);
        due("nothing to undo", x.count(4), 0);
    }

    private static void speaks() {
        promise = 24;
        BackColumns x = new BackColumns();
        due("nothing told", x.speaks(), 31);
        x.tell(0, 12, 1);
        x.tell(1, 12, 0);
        x.tell(3, 12, 0);
        due("one is not so", x.speaks(), 29);
        x.tell(0, 35, 1);
        due("one of two is not so", x.speaks(), 28);
        x.takeFor(0, 9);
        due("by what it is taken for now", x.speaks(), 30);
        x.undo();
        due("undone", x.speaks(), 28);
        due("no readers", laid("w1,0,0;").speaks(), 0);
        BackColumns six = laid("w1,0,0;" + "r0,0;".repeat(6));
        due("six readers", six.speaks(), 63);
        six.tell(5, 1, 0);
        due("the last is not so", six.speaks(), 31);
    }

    private static void odds() {
        promise = 25;
        BackColumns x = new BackColumns();
        int[][] want = {{0, 1}, {271, 1000}, {61, 125}, {657, 1000}, {98, 125}, {7, 8}, {117, 125}, {973, 1000},
            {124, 125}, {999, 1000}, {1, 1}};
        for (int n = 0; n <= 10; n++) {
            due("odds(0, " + n + ", 0)", x.odds(0, n, 0), want[n][0]);
            due("odds(0, " + n + ", 1)", x.odds(0, n, 1), want[n][1]);
            due("nobody answers, above", x.odds(1, n, 0), 0);
            due("nobody answers, below", x.odds(1, n, 1), 1);
        }
        for (int bad : new int[] {-1, 4, LOW, HIGH}) {
            due("odds(" + bad + ", 0, 0)", x.odds(bad, 0, 0), BAD);
            due("odds(0, 0, " + (bad == 4 ? 2 : bad) + ")", x.odds(0, 0, bad == 4 ? 2 : bad), BAD);
            due("odds(0, " + (bad == 4 ? 11 : bad) + ", 0)", x.odds(0, bad == 4 ? 11 : bad, 0), BAD);
        }
        BackColumns six = laid("w1,0,0;n0;" + "r0,0;".repeat(6));
        due("six of 1, above", six.odds(0, 1, 0), 468559);
        due("six of 1, below", six.odds(0, 1, 1), 1000000);
        due("six of 9, above", six.odds(0, 9, 0), 999999);
        due("six of 5, below", six.odds(0, 5, 1), 64);
    }

    private static void run() {
        promise = 26;
        BackColumns x = new BackColumns();
        int[] byFive = {1, 1, 1, 1, 1, 2, 2, 3, 4};
        int[] byThree = {1, 1, 1, 2, 2, 3, 4, 5, 7};
        int[] byOne = {1, 3, 4, 5, 7, 9, 12, NONE, NONE};
        int[] byTwo = {1, 1, 2, 3, 4, 5, 6, 8, 11};
        for (int y = 1; y <= 9; y++) {
            due("run(0, 5, " + y + ")", x.run(0, 5, y), byFive[y - 1]);
            due("run(0, 3, " + y + ")", x.run(0, 3, y), byThree[y - 1]);
            due("run(0, 1, " + y + ")", x.run(0, 1, y), byOne[y - 1]);
            due("run(0, 2, " + y + ")", x.run(0, 2, y), byTwo[y - 1]);
            due("run(0, 0, " + y + ")", x.run(0, 0, y), NONE);
            due("run(0, 10, " + y + ")", x.run(0, 10, y), 1);
            due("run(0, " + y + ", " + y + ")", x.run(0, y, y), 1);
            due("nobody answers", x.run(1, 10, y), NONE);
        }
        for (int bad : new int[] {-1, 11, LOW, HIGH}) {
            due("run(" + bad + ", 5, 5)", x.run(bad, 5, 5), BAD);
            due("run(0, " + bad + ", 5)", x.run(0, bad, 5), BAD);
            due("run(0, 5, " + bad + ")", x.run(0, 5, bad), BAD);
        }
        due("run(4, 5, 5)", x.run(4, 5, 5), BAD);
        due("run(0, 5, 0)", x.run(0, 5, 0), BAD);
        due("run(0, 5, 10)", x.run(0, 5, 10), BAD);
        due("nobody answers, wrong y", x.run(1, 5, 10), BAD);
    }

    private static void wanted() {
        promise = 27;
        due("wanted", new BackColumns().wanted(), 1023 & ~(1 << 6 | 1 << 9 | 1 << 4 | 1 << 8 | 1 << 2));
        due("no readers", laid("w1,0,0;").wanted(), 1023);
        due("all want 0", laid("w1,0,0;r0,0;r1,0;").wanted(), 1022);
        due("one wants 9", laid("w1,0,0;r3,9;").wanted(), 511);
    }

    private static void moods() {
        promise = 28;
        BackColumns x = new BackColumns();
        due("moods(0)", x.moods(0), 0);
        due("moods(1)", x.moods(1), 2);
        x.put(4);
        due("moods(0)", x.moods(0), 3);
        due("moods(1)", x.moods(1), 3);
        x.put(1);
        due("of several the lowest", x.moods(0), 0);
        for (int bad : new int[] {-1, 2, LOW, HIGH}) {
            due("moods(" + bad + ")", x.moods(bad), BAD);
        }
        due("once in each counts", laid("w1,0,0;w1,0,0;n000;n1;n1;").moods(0), 1);
        due("once in each counts", laid("w1,0,0;w1,0,0;n000;n1;n1;").moods(1), 2);
        due("no notices", laid("w1,0,0;w1,0,0;").moods(0), 0);
        due("no notices", laid("w1,0,0;w1,0,0;").moods(1), 0);
    }

    private static void month() {
        promise = 29;
        // By z 0 the first DRAW is 1: two WORDS, each 0.
        BackColumns one = laid("w1,1,2;r0,2;r1,4;r3,6;");
        due("the first day", one.month(0, 1, 0), 3);
        due("not just one", one.month(0, 1, 1), 0);
        BackColumns x = new BackColumns();
        for (int[] row : MONTHS) {
            due("month(" + row[0] + ", " + row[1] + ", 0)", x.month(row[0], row[1], 0), row[2]);
            due("month(" + row[0] + ", " + row[1] + ", 1)", x.month(row[0], row[1], 1), row[3]);
        }
        for (int bad : new int[] {-1, 10000, LOW, HIGH}) {
            due("month(" + bad + ", 1, 0)", x.month(bad, 1, 0), BAD);
        }
        for (int bad : new int[] {-1, 0, 41, LOW, HIGH}) {
            due("month(0, " + bad + ", 0)", x.month(0, bad, 0), BAD);
        }
        for (int bad : new int[] {-1, 2, LOW, HIGH}) {
            due("month(0, 1, " + bad + ")", x.month(0, 1, bad), BAD);
        }
        due("no readers", laid("w1,0,0;").month(0, 40, 0), 0);
        due("nothing changed", x.count(2), 4);
    }

    /** z, days, answers in all, days of just one: worked out apart from this program, from the first text. */
    private static final int[][] MONTHS = {
        {0, 1, 0, 0}, {0, 40, 14, 12}, {1, 1, 0, 0}, {1, 7, 3, 3},
        {7, 30, 17, 13}, {42, 31, 18, 9}, {500, 40, 15, 13}, {1234, 12, 9, 6},
        {5000, 40, 22, 15}, {9998, 25, 16, 11}, {9999, 1, 0, 0}, {9999, 40, 19, 13},
    };

    private static void keep() {
        promise = 30;
        BackColumns x = new BackColumns();
        due("keep", x.keep(), 1);
        due("keep", x.keep(), 2);
        due("keep", x.keep(), FULL);
        due("count(5)", x.count(5), 2);
        x.back();
        due("keep", x.keep(), 2);
        BackColumns y = new BackColumns();
        y.put(1);
        due("keep", y.keep(), 1);
        due("what can be undone stays", y.undo(), 0);
    }

    private static void back() {
        promise = 31;
        BackColumns x = new BackColumns();
        due("back", x.back(), NO);
        String first = paper(x);
        x.keep();
        x.take(0);
        x.takeFor(1, 9);
        String second = paper(x);
        x.keep();
        x.put(5);
        x.put(55);
        x.takeFor(0, 0);
        x.tell(0, 1, 1);
        due("keep", x.keep(), FULL);
        due("back", x.back(), 1);
        same("as kept last", paper(x), second);
        due("count(4)", x.count(4), 0);
        due("undo", x.undo(), NO);
        due("what is told stays", x.count(3), 1);
        x.put(5);
        due("back", x.back(), 0);
        same("as kept first", paper(x), first);
        due("undo", x.undo(), NO);
        x.put(5);
        due("back", x.back(), NO);
        due("count(4)", x.count(4), 1);
    }

    private static void count() {
        promise = 32;
        BackColumns x = written("w1,0,0;");
        x.put(1);
        x.take(0);
        x.takeFor(0, 0);
        x.tell(0, 1, 0);
        x.tell(0, 1, 0);
        x.keep();
        x.put(1);
        int[] want = {5, 5, 5, 2, 4, 1, 7};
        for (int what = 0; what <= 6; what++) {
            due("count(" + what + ")", x.count(what), want[what]);
        }
        for (int bad : new int[] {-1, 7, LOW, HIGH}) {
            due("count(" + bad + ")", x.count(bad), BAD);
        }
    }

    private static void constants() {
        promise = 0;
        due("BAD", BackColumns.BAD, BAD);
        due("NO", BackColumns.NO, NO);
        due("FULL", BackColumns.FULL, FULL);
        due("NONE", BackColumns.NONE, NONE);
    }

    public static void main(String[] args) {
        constants();
        aNewObject();
        write();
        wipe();
        fault();
        lay();
        word();
        reader();
        notice();
        put();
        take();
        takeFor();
        undo();
        reads();
        answers();
        price();
        cheapest();
        twofold();
        matched();
        near();
        column();
        tell();
        forget();
        taken();
        speaks();
        odds();
        run();
        wanted();
        moods();
        month();
        keep();
        back();
        count();
        System.out.println(wrong == 0 ? "all promises are kept" : wrong + " answers are not as due");
        if (wrong != 0) {
            System.exit(1);
        }
    }
}
