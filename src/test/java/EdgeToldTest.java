import java.math.BigInteger;

/** The edges of promises 21 to 29: what is TOLD, and TAKEN, SPEAKS, ODDS, RUN, WANTED, MOODS, MONTH. */
public final class EdgeToldTest {
    private static final String FIRST =
            "w3,1,4;w2,5,5;w4,2,7;w1,0,3;w5,6,1;r0,6;r1,9;r2,4;r3,8;r1,2;n01;n24;n130;n3;";
    private static final String WORD = "w1,0,0;";
    private static final String SIX_ANSWER = WORD + "r0,0;".repeat(6) + "n0;";
    private static final String EIGHT_TOLD = "tell(0,1,0)=1 tell(1,2,0)=2 tell(2,3,0)=3 tell(3,4,0)=4 tell(4,5,0)=5 "
            + "tell(0,55555,0)=6 tell(0,1,1)=7 tell(0,1,1)=8 ";

    /** The days of RUN: a row for each x of 1 to 9, in it one number for each y of 1 to 9. */
    private static final int[][] DAYS = {
        {1, 3, 4, 5, 7, 9, 12, Edge.NONE, Edge.NONE},
        {1, 1, 2, 3, 4, 5, 6, 8, 11},
        {1, 1, 1, 2, 2, 3, 4, 5, 7},
        {1, 1, 1, 1, 2, 2, 3, 4, 5},
        {1, 1, 1, 1, 1, 2, 2, 3, 4},
        {1, 1, 1, 1, 1, 1, 2, 2, 3},
        {1, 1, 1, 1, 1, 1, 1, 2, 2},
        {1, 1, 1, 1, 1, 1, 1, 1, 2},
        {1, 1, 1, 1, 1, 1, 1, 1, 1},
    };

    private static void tell() {
        Edge.of(21, "readers such as there are: 5").bounds("tell(#,1,0)", 0, 4);
        Edge.of(21, "readers such as there are: 6").laid(SIX_ANSWER).bounds("tell(#,1,1)", 0, 5);
        Edge.of(21, "readers such as there are: none").laid(WORD)
                .asks("tell(0,1,0)=BAD tell(0,1,1)=BAD tell(-1,1,0)=BAD tell(LOW,1,0)=BAD tell(HIGH,1,0)=BAD")
                .asks("count(3)=0");
        Edge.of(21, "codes of words there are: 5").calls("tell(0,1,0)=1 tell(0,55555,0)=2")
                .asks("tell(0,0,0)=BAD tell(0,-1,0)=BAD tell(0,6,0)=BAD tell(0,9,0)=BAD tell(0,10,0)=BAD")
                .asks("tell(0,16,0)=BAD")
                .asks("tell(0,101,0)=BAD tell(0,55556,0)=BAD tell(0,65555,0)=BAD tell(0,111111,0)=BAD")
                .asks("tell(0,LOW,0)=BAD tell(0,HIGH,0)=BAD");
        Edge.of(21, "the highest code").laid(WORD.repeat(8) + "r0,0;").calls("tell(0,88888,1)=1")
                .asks("tell(0,88889,1)=BAD tell(0,98888,1)=BAD");
        Edge.of(21, "answered is 0 or 1").bounds("tell(0,1,#)", 0, 1);
        Edge.of(21, "all wrong")
                .asks("tell(-1,0,-1)=BAD tell(5,6,2)=BAD tell(LOW,LOW,LOW)=BAD tell(HIGH,HIGH,HIGH)=BAD count(3)=0");
        Edge.of(21, "8 at most: the ninth is FULL").calls(EIGHT_TOLD + "count(3)=8")
                .asks("tell(4,1,0)=FULL tell(0,1,1)=FULL count(3)=8");
        Edge.of(21, "of several the first: BAD behind 8").calls(EIGHT_TOLD)
                .asks("tell(5,1,0)=BAD tell(-1,1,0)=BAD tell(0,0,0)=BAD tell(0,6,0)=BAD tell(0,1,2)=BAD")
                .asks("tell(0,1,-1)=BAD tell(0,1,0)=FULL");
        Edge.of(21, "what is FULL is not told").laid(SIX_ANSWER)
                .calls("tell(0,1,1)=1 tell(0,1,1)=2 tell(0,1,1)=3 tell(0,1,1)=4 tell(0,1,1)=5 tell(0,1,1)=6")
                .calls("tell(0,1,1)=7 tell(0,1,1)=8")
                .asks("tell(1,1,0)=FULL speaks()=63 taken(0)=1023");
        Edge.of(21, "behind 8 forgotten there is room for 8").calls(EIGHT_TOLD + "forget()=8 " + EIGHT_TOLD)
                .asks("tell(0,1,0)=FULL");
        Edge.of(21, "behind 8 and a text laid there is room for 8").written(FIRST)
                .calls(EIGHT_TOLD + "lay()=5 " + EIGHT_TOLD)
                .asks("tell(0,1,0)=FULL");
        Edge.of(21, "the same twice, and both ways").calls("tell(0,1,1)=1 tell(0,1,1)=2 tell(0,1,0)=3")
                .asks("count(3)=3 speaks()=30");
        Edge.of(21, "no change that can be undone").calls("put(1)=5 tell(0,1,1)=1 count(4)=1 undo()=0 count(3)=1")
                .asks("undo()=NO");
    }

    private static void forget() {
        Edge.of(22, "nothing was told").calls("forget()=0 forget()=0");
        Edge.of(22, "one was told").calls("tell(0,1,1)=1 forget()=1 forget()=0 count(3)=0")
                .asks("speaks()=31 taken(0)=1023");
        Edge.of(22, "8 were told").calls(EIGHT_TOLD + "forget()=8 count(3)=0").asks("speaks()=31 taken(0)=1023");
        Edge.of(22, "what was forgotten does not come back")
                .calls("tell(0,1,1)=1 tell(1,1,1)=2 forget()=2 tell(2,1,1)=1")
                .asks("speaks()=31 count(3)=1 taken(1)=1023");
        Edge.of(22, "all else stays").written("x")
                .calls("put(1)=5 keep()=1 tell(0,1,1)=1 forget()=1 count(2)=5 count(4)=1 count(5)=1 count(6)=1");
    }

    private static void taken() {
        Edge.of(23, "words such as there are: 5").bounds("taken(#)", 0, 4);
        Edge.of(23, "words such as there are: 8").laid(WORD.repeat(8)).bounds("taken(#)", 0, 7);
        Edge.of(23, "words such as there are: 1").laid(WORD).bounds("taken(#)", 0, 0);
        Edge.of(23, "nothing told: all of 0 to 9").asks("taken(0)=1023 taken(4)=1023");
        Edge.of(23, "0 alone, and 9 alone").laid(WORD + WORD + "r1,0;r1,9;").calls("tell(0,1,1)=1 tell(1,2,1)=2")
                .asks("taken(0)=0 taken(1)=512")
                .calls("takeFor(1,9)=0").asks("taken(0)=1 taken(1)=512");
        Edge.of(23, "all but 0, and all but 9").laid("w1,0,5;r1,0;r1,9;").calls("tell(0,1,0)=1").asks("taken(0)=1022")
                .calls("tell(1,1,0)=2")
                .asks("taken(0)=510");
        Edge.of(23, "nothing it can be taken for").laid(WORD + "r1,0;").calls("tell(0,1,1)=1 tell(0,1,0)=2")
                .asks("taken(0)=0");
        Edge.of(23, "all that is told, the eighth too").laid("w1,0,8;r1,0;r1,1;r1,2;r1,3;r1,4;r1,5;")
                .calls("tell(0,1,0)=1 tell(1,1,0)=2 tell(2,1,0)=3 tell(3,1,0)=4 tell(4,1,0)=5 tell(5,1,0)=6")
                .asks("taken(0)=960")
                .calls("tell(0,11,0)=7").asks("taken(0)=960").calls("tell(2,11,0)=8").asks("taken(0)=896");
        Edge.of(23, "modulo 10, the word twice: two things").laid("w1,0,0;r1,2;").calls("tell(0,11,1)=1")
                .asks("taken(0)=66");
        Edge.of(23, "modulo 10, the word five times: none or five").laid("w1,0,0;r1,5;r1,1;").calls("tell(0,11111,1)=1")
                .asks("taken(0)=682")
                .calls("tell(1,11111,1)=2").asks("taken(0)=0");
        Edge.of(23, "modulo 10 by place, for a fond one").laid("w1,0,0;w1,0,0;r2,8;").calls("tell(0,221,1)=1")
                .asks("taken(0)=64 taken(1)=64")
                .calls("takeFor(0,6)=0").asks("taken(1)=1 taken(0)=64");
        Edge.of(23, "police add what it means plainly").laid("w1,9,0;r3,0;").calls("tell(0,1,1)=1").asks("taken(0)=2");
        Edge.of(23, "a plain one does not care").laid("w1,9,0;r0,9;").calls("tell(0,1,1)=1").asks("taken(0)=1023")
                .calls("tell(0,11,1)=2").asks("taken(0)=0");
        Edge.of(23, "a word that is not in it: all or nothing").laid("w1,0,3;w1,0,0;r1,3;").calls("tell(0,1,1)=1")
                .asks("taken(1)=1023 taken(0)=8")
                .calls("tell(0,1,0)=2").asks("taken(1)=0");
        Edge.of(23, "all else as it is now, not the word itself").laid("w1,0,1;w1,0,2;r1,3;").calls("tell(0,12,1)=1")
                .asks("taken(0)=2 taken(1)=4")
                .calls("takeFor(0,9)=1").asks("taken(0)=2 taken(1)=16").calls("undo()=0").asks("taken(1)=4");
        Edge.of(23, "without readers all").laid(WORD).asks("taken(0)=1023 taken(1)=BAD");
        Edge.of(23, "nothing is taken for anything by asking").calls("tell(1,12,1)=1")
                .asks("taken(0)=16 word(0,2)=4 taken(1)=32 word(1,2)=5 count(4)=0");
    }

    private static void speaks() {
        Edge.of(24, "nothing told: all readers").asks("speaks()=31");
        Edge.of(24, "no readers").laid(WORD).asks("speaks()=0");
        Edge.of(24, "one reader").laid(WORD + "r0,0;").asks("speaks()=1").calls("tell(0,1,0)=1").asks("speaks()=0");
        Edge.of(24, "six readers, the first and the sixth not so").laid(SIX_ANSWER).asks("speaks()=63")
                .calls("tell(5,1,0)=1").asks("speaks()=31")
                .calls("tell(0,1,0)=2 tell(1,1,1)=3").asks("speaks()=30");
        Edge.of(24, "one of 8 not so, the last").laid(SIX_ANSWER)
                .calls("tell(0,1,1)=1 tell(0,1,1)=2 tell(0,1,1)=3 tell(0,1,1)=4 tell(0,1,1)=5 tell(0,1,1)=6")
                .calls("tell(0,1,1)=7")
                .asks("speaks()=63")
                .calls("tell(0,1,0)=8").asks("speaks()=62");
        Edge.of(24, "one not so, then one that is so").laid(SIX_ANSWER).calls("tell(3,1,0)=1 tell(3,1,1)=2")
                .asks("speaks()=55");
        Edge.of(24, "told of one says nothing of another").laid(WORD + "r0,0;r0,1;")
                .calls("tell(0,1,1)=1 tell(1,1,0)=2").asks("speaks()=3")
                .calls("tell(1,1,1)=3").asks("speaks()=1");
        Edge.of(24, "by what a word is taken for now").laid(WORD + "r1,0;").calls("tell(0,1,1)=1 takeFor(0,1)=0")
                .asks("speaks()=0").calls("undo()=0")
                .asks("speaks()=1");
    }

    private static void odds() {
        Edge.of(25, "notices such as there are: 4").bounds("odds(#,5,0)", 0, 3).bounds("odds(#,5,1)", 0, 3);
        Edge.of(25, "notices such as there are: none").laid(WORD + "r0,0;")
                .asks("odds(0,5,0)=BAD odds(-1,5,0)=BAD odds(LOW,5,0)=BAD odds(HIGH,5,1)=BAD");
        Edge.of(25, "x is 0 to 10").bounds("odds(0,#,0)", 0, 10).bounds("odds(1,#,1)", 0, 10);
        Edge.of(25, "part is 0 or 1").bounds("odds(0,5,#)", 0, 1).bounds("odds(1,0,#)", 0, 1);
        Edge.of(25, "all wrong")
                .asks("odds(-1,-1,-1)=BAD odds(4,11,2)=BAD odds(LOW,LOW,LOW)=BAD odds(HIGH,HIGH,HIGH)=BAD");
        Edge nobody = Edge.of(25, "nobody answers: 0 by 1").laid(WORD + "r0,1;n0;");
        for (int x = 0; x <= 10; x++) {
            nobody.asks("odds(0," + x + ",0)=0 odds(0," + x + ",1)=1");
        }
        Edge.of(25, "without readers: 0 by 1").laid(WORD + "n0;").asks("odds(0,10,0)=0 odds(0,10,1)=1 odds(0,0,1)=1");
        Edge.of(25, "nobody reads: 0 by 1").laid(SIX_ANSWER).asks("odds(0,0,0)=0 odds(0,0,1)=1");
        Edge.of(25, "all read: 1 by 1").laid(SIX_ANSWER).asks("odds(0,10,0)=1 odds(0,10,1)=1");
        int[][] ofOne = {{0, 1}, {1, 10}, {1, 5}, {3, 10}, {2, 5}, {1, 2}, {3, 5}, {7, 10}, {4, 5}, {9, 10}, {1, 1}};
        int[][] ofSix = {{0, 1}, {468559, 1000000}, {11529, 15625}, {882351, 1000000}, {14896, 15625}, {63, 64},
            {15561, 15625}, {999271, 1000000}, {15624, 15625}, {999999, 1000000}, {1, 1}};
        Edge one = Edge.of(25, "one of six answers, in lowest terms").laid(WORD + "r0,1;r0,2;r0,3;r0,4;r0,5;r0,0;n0;");
        for (int x = 0; x <= 10; x++) {
            one.asks("odds(0," + x + ",0)=" + ofOne[x][0] + " odds(0," + x + ",1)=" + ofOne[x][1]);
        }
        Edge six = Edge.of(25, "six of six answer, in lowest terms").laid(SIX_ANSWER);
        for (int x = 0; x <= 10; x++) {
            six.asks("odds(0," + x + ",0)=" + ofSix[x][0] + " odds(0," + x + ",1)=" + ofSix[x][1]);
        }
    }

    private static void run() {
        Edge.of(26, "notices such as there are: 4").bounds("run(#,5,5)", 0, 3);
        Edge.of(26, "notices such as there are: none").laid(WORD + "r0,0;")
                .asks("run(0,5,5)=BAD run(-1,5,5)=BAD run(LOW,5,5)=BAD run(HIGH,5,5)=BAD");
        Edge.of(26, "x is 0 to 10").bounds("run(0,#,5)", 0, 10);
        Edge.of(26, "y is 1 to 9").bounds("run(0,5,#)", 1, 9).asks("run(0,5,0)=BAD run(0,5,10)=BAD");
        Edge.of(26, "of several the first: BAD where there would be none").laid(WORD + "r0,1;n0;")
                .asks("run(0,5,5)=NONE run(0,5,0)=BAD run(0,5,10)=BAD run(0,-1,5)=BAD run(0,11,5)=BAD run(1,0,5)=BAD");
        Edge.of(26, "all wrong").asks("run(-1,-1,0)=BAD run(4,11,10)=BAD run(LOW,LOW,LOW)=BAD run(HIGH,HIGH,HIGH)=BAD");
        Edge nobody = Edge.of(26, "nobody answers: none").laid(WORD + "r0,1;n0;");
        for (int y = 1; y <= 9; y++) {
            nobody.asks("run(0,10," + y + ")=NONE run(0,0," + y + ")=NONE run(0,9," + y + ")=NONE");
        }
        Edge never = Edge.of(26, "never read: none; always read: one day").laid(WORD + "r0,0;n0;");
        for (int y = 1; y <= 9; y++) {
            never.asks("run(0,0," + y + ")=NONE run(0,10," + y + ")=1");
        }
        Edge.of(26, "without readers: none").laid(WORD + "n0;").asks("run(0,10,1)=NONE run(0,10,9)=NONE");
        for (int x = 1; x <= 9; x++) {
            Edge edge = Edge.of(26, "just y of ten is enough, 16 days are too many, by x = " + x)
                    .laid(WORD + "r0,0;n0;");
            for (int y = 1; y <= 9; y++) {
                edge.asks("run(0," + x + "," + y + ")=" + DAYS[x - 1][y - 1]);
            }
        }
        Edge.of(26, "one reader, however many answer").laid(SIX_ANSWER)
                .asks("run(0,5,9)=4 run(0,1,7)=12 run(0,1,8)=NONE run(0,5,5)=1");
    }

    private static void wanted() {
        Edge.of(27, "no readers: all of 0 to 9").laid(WORD).asks("wanted()=1023");
        Edge.of(27, "0 is wanted, and 9").laid(WORD + "r0,0;").asks("wanted()=1022");
        Edge.of(27, "9 is wanted").laid(WORD + "r3,9;").asks("wanted()=511");
        Edge.of(27, "six want six things").laid(WORD + "r0,0;r1,1;r2,2;r3,3;r0,4;r1,9;").asks("wanted()=480");
        Edge.of(27, "six want one thing").laid(WORD + "r0,5;".repeat(6)).asks("wanted()=991");
        Edge.of(27, "fewer readers behind more").written(WORD).asks("wanted()=171").calls("lay()=1")
                .asks("wanted()=1023");
    }

    private static void moods() {
        Edge.of(28, "what is 0 or 1").bounds("moods(#)", 0, 1);
        Edge.of(28, "no notices: the lowest, in 0").laid(WORD + WORD)
                .asks("moods(0)=0 moods(1)=0 moods(2)=BAD moods(-1)=BAD");
        Edge.of(28, "all taken out").calls("take(0)=3 take(0)=2 take(0)=1 take(0)=0").asks("moods(0)=0 moods(1)=0");
        Edge.of(28, "the eighth word, in six").laid(WORD.repeat(8) + "n7;n70;n71;n72;n73;n74;")
                .asks("moods(0)=7 moods(1)=6");
        Edge.of(28, "once in each counts").laid(WORD + WORD + "n00000;n1;n1;").asks("moods(0)=1 moods(1)=2");
        Edge.of(28, "of several the lowest").laid(WORD.repeat(3) + "n21;n12;n0;").asks("moods(0)=1 moods(1)=2")
                .calls("put(1)=4").asks("moods(0)=0 moods(1)=2");
        Edge.of(28, "one notice").laid(WORD.repeat(8) + "n7;").asks("moods(0)=7 moods(1)=1");
    }

    /** The CODE of a day, by numbers that cannot run over. */
    private static int drawn(int z, int day, int words) {
        BigInteger x = BigInteger.valueOf(7919).multiply(BigInteger.valueOf(z))
                .add(BigInteger.valueOf(6151).multiply(BigInteger.valueOf(day))).add(BigInteger.ONE);
        int draw = x.multiply(x).mod(BigInteger.valueOf(65521)).intValue();
        int code = 0;
        for (int k = 0; k < draw % 4 + 1; k++) {
            BigInteger cut = BigInteger.valueOf(draw).divide(BigInteger.valueOf(4).pow(k + 1));
            code = 10 * code + cut.mod(BigInteger.valueOf(words)).intValue() + 1;
        }
        return code;
    }

    private static void monthOf(String text, int z, int n) {
        BackColumns paper = new BackColumns();
        for (char letter : text.toCharArray()) {
            paper.write(letter);
        }
        int words = paper.lay();
        int answers = 0;
        int daysOfOne = 0;
        for (int day = 0; day < n; day++) {
            int many = Integer.bitCount(paper.answers(drawn(z, day, words)));
            answers += many;
            daysOfOne += many == 1 ? 1 : 0;
        }
        Edge.of(29, "by z " + z + " of " + n + " days, words: " + words).laid(text)
                .asks("month(" + z + "," + n + ",0)=" + answers + " month(" + z + "," + n + ",1)=" + daysOfOne);
    }

    private static void month() {
        Edge.of(29, "z is 0 to 9999").bounds("month(#,1,0)", 0, 9999).bounds("month(#,40,1)", 0, 9999);
        Edge.of(29, "n is 1 to 40").bounds("month(0,#,0)", 1, 40).bounds("month(9999,#,1)", 1, 40)
                .asks("month(0,0,0)=BAD month(0,41,1)=BAD");
        Edge.of(29, "what is 0 or 1").bounds("month(0,1,#)", 0, 1).bounds("month(9999,40,#)", 0, 1);
        Edge.of(29, "all wrong")
                .asks("month(-1,0,-1)=BAD month(10000,41,2)=BAD month(LOW,LOW,LOW)=BAD month(HIGH,HIGH,HIGH)=BAD");
        Edge.of(29, "no readers").laid(WORD).asks("month(0,40,0)=0 month(0,40,1)=0 month(9999,40,0)=0");
        Edge.of(29, "by z 0 the first draw is 1: two words, each 0").laid("w1,1,2;r0,2;r1,4;")
                .asks("month(0,1,0)=2 month(0,1,1)=0");
        Edge.of(29, "just one on the first day").laid("w1,1,2;r0,2;r1,5;").asks("month(0,1,0)=1 month(0,1,1)=1");
        Edge.of(29, "nobody on the first day").laid("w1,1,2;r0,3;r1,5;").asks("month(0,1,0)=0 month(0,1,1)=0");
        Edge.of(29, "all six on all 40 days").laid(WORD + "r0,0;".repeat(6))
                .asks("month(0,40,0)=240 month(0,40,1)=0 month(9999,1,0)=6");
        Edge.of(29, "just one on all 40 days").laid(WORD + "r0,0;")
                .asks("month(0,40,0)=40 month(0,40,1)=40 month(9999,1,1)=1");
        String eight = "w2,7,3;w5,1,9;w1,4,4;w8,0,6;w3,3,1;w6,9,2;w4,5,0;w2,2,8;r0,3;r1,7;r2,5;r3,1;r1,7;r0,8;";
        for (String text : new String[] {FIRST, eight, "w1,1,2;r0,2;r1,6;r2,2;r3,9;"}) {
            for (int z : new int[] {0, 1, 9998, 9999}) {
                for (int n : new int[] {1, 2, 39, 40}) {
                    monthOf(text, z, n);
                }
            }
        }
        Edge.of(29, "the same again, whatever was asked between")
                .asks("month(0,40,0)=14 month(9999,40,0)=19 month(0,40,0)=14 month(0,40,1)=12");
        Edge.of(29, "whatever notices are in").calls("take(0)=3 take(0)=2 take(0)=1 take(0)=0")
                .asks("month(0,40,0)=14 month(0,40,1)=12 count(2)=0");
    }

    public static void main(String[] args) {
        tell();
        forget();
        taken();
        speaks();
        odds();
        run();
        wanted();
        moods();
        month();
        Edge.end(21, 29);
    }
}
