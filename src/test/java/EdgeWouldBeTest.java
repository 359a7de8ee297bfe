/** The edges of promises 16 to 20: CHEAPEST, DOUBLE, MATCHED, NEAR, COLUMN. */
public final class EdgeWouldBeTest {
    private static final String WORD = "w1,0,0;";

    private static void cheapest() {
        Edge.of(16, "readers such as there are: 5").bounds("cheapest(#,0)", 0, 4).bounds("cheapest(#,1)", 0, 4);
        Edge.of(16, "readers such as there are: 6").laid(WORD + "r0,0;".repeat(6)).bounds("cheapest(#,0)", 0, 5);
        Edge.of(16, "readers such as there are: none").laid(WORD)
                .asks("cheapest(0,0)=BAD cheapest(-1,0)=BAD cheapest(LOW,0)=BAD cheapest(HIGH,1)=BAD");
        Edge.of(16, "what is 0 or 1").bounds("cheapest(0,#)", 0, 1).asks("cheapest(4,2)=BAD cheapest(5,2)=BAD");
        Edge.of(16, "of several the first: BAD where there would be none").laid(WORD + "r0,1;")
                .asks("cheapest(0,0)=NONE cheapest(0,1)=NONE cheapest(0,2)=BAD cheapest(0,-1)=BAD cheapest(1,0)=BAD");
        Edge.of(16, "a notice of one word, of two, three and four").laid("w1,1,0;r0,1;r0,2;r0,3;r0,4;r0,5;")
                .asks("cheapest(0,0)=1 cheapest(1,0)=11 cheapest(2,0)=111 cheapest(3,0)=1111")
                .asks("cheapest(0,1)=1 cheapest(1,1)=3 cheapest(2,1)=5 cheapest(3,1)=7");
        Edge.of(16, "none of five words").laid("w1,1,0;r0,5;r0,0;")
                .asks("cheapest(0,0)=NONE cheapest(0,1)=NONE cheapest(1,0)=NONE");
        Edge.of(16, "the highest code").laid(WORD.repeat(7) + "w1,1,0;r0,4;")
                .asks("cheapest(0,0)=8888 cheapest(0,1)=7");
        Edge.of(16, "the highest price").laid("w9,1,0;r0,4;").asks("cheapest(0,0)=1111 cheapest(0,1)=39");
        Edge.of(16, "two readers alike: none").laid(WORD + "r0,0;r0,0;").asks("cheapest(0,0)=NONE cheapest(1,1)=NONE");
        Edge.of(16, "no other reader, ahead of him or behind").laid("w1,3,3;w2,3,4;w3,4,3;r0,3;r1,3;")
                .asks("cheapest(0,0)=2 cheapest(0,1)=2 cheapest(1,0)=3 cheapest(1,1)=3");
        Edge.of(16, "a sixth reader is another too").laid(WORD + "r0,0;r0,1;r0,2;r0,3;r0,4;r1,0;")
                .asks("cheapest(0,0)=NONE");
        Edge.of(16, "one found leaves nothing for the next asked").laid("w1,3,3;r0,3;r1,4;")
                .asks("cheapest(0,0)=1 cheapest(1,0)=NONE cheapest(0,1)=1 cheapest(1,1)=NONE");
        Edge.of(16, "least price ahead of fewest words").laid("w4,2,0;w1,1,0;r0,2;")
                .asks("cheapest(0,0)=22 cheapest(0,1)=3");
        Edge.of(16, "least price with four words").laid("w9,4,0;w1,1,0;w1,1,0;r0,4;")
                .asks("cheapest(0,0)=2223 cheapest(0,1)=6");
        Edge.of(16, "of one price the fewest words: one of two").laid("w1,1,0;w2,1,0;w3,2,0;r0,2;")
                .asks("cheapest(0,0)=3 cheapest(0,1)=3");
        Edge.of(16, "of one price the fewest words: three of four").laid("w1,1,0;w1,1,0;w1,1,0;w1,1,0;w2,2,0;r0,4;")
                .asks("cheapest(0,0)=125 cheapest(0,1)=4");
        Edge.of(16, "of one price and length the least code").laid("w1,2,0;w1,1,0;w1,3,0;w1,0,0;r0,3;r0,4;")
                .asks("cheapest(0,0)=3 cheapest(1,0)=23");
        Edge.of(16, "of one price and length the least code, by place").laid("w1,0,2;w1,0,1;r2,4;r2,5;")
                .asks("cheapest(0,0)=12 cheapest(1,0)=21");
        Edge.of(16, "1 more for a word a second time").laid("w1,1,0;w2,1,0;r0,2;")
                .asks("cheapest(0,0)=11 cheapest(0,1)=3");
        Edge.of(16, "1 more for a word a second time makes another cheaper").laid("w2,1,0;w2,1,0;r0,2;")
                .asks("cheapest(0,0)=12 cheapest(0,1)=4");
        Edge.of(16, "modulo 10").laid("w1,5,0;r0,0;").asks("cheapest(0,0)=11 cheapest(0,1)=3");
        Edge.of(16, "whether it is in or not").asks("cheapest(0,0)=5")
                .calls("put(5)=5 take(0)=4 take(0)=3 take(0)=2 take(0)=1 take(0)=0")
                .asks("cheapest(0,0)=5 cheapest(0,1)=5");
        Edge.of(16, "by what a word is taken for now").laid("w1,0,1;r1,2;").asks("cheapest(0,0)=11")
                .calls("takeFor(0,2)=1")
                .asks("cheapest(0,0)=1").calls("takeFor(0,0)=2").asks("cheapest(0,0)=NONE");
    }

    private static void twofold() {
        Edge.of(17, "no notices").laid("w1,0,1;").asks("twofold()=0");
        Edge.of(17, "all taken out").laid("w1,0,1;n0;").asks("twofold()=1").calls("take(0)=0").asks("twofold()=0");
        Edge.of(17, "six of six").laid("w1,0,1;" + "n0;".repeat(6)).asks("twofold()=63");
        Edge.of(17, "none of six").laid("w1,4,4;" + "n0;".repeat(6)).asks("twofold()=0");
        Edge.of(17, "the first and the sixth alone").laid("w1,0,1;w1,3,3;n0;n1;n1;n1;n1;n0;").asks("twofold()=33");
        Edge.of(17, "unlike by 10 and by 20 is alike").laid("w1,0,5;n0;n00;n000;n0000;n00000;").asks("twofold()=21");
        Edge.of(17, "unlike words that add up alike").laid("w1,1,2;w1,2,1;n0;n1;n01;n10;").asks("twofold()=3");
        Edge.of(17, "without readers of these kinds").laid("w1,0,1;r2,0;n0;").asks("twofold()=1");
        Edge.of(17, "by what a word is taken for now").laid("w1,0,1;n0;").calls("takeFor(0,0)=1").asks("twofold()=0")
                .calls("undo()=0").asks("twofold()=1");
    }

    private static void matched() {
        Edge.of(18, "-1, or notices such as there are: 4").bounds("matched(#)", -1, 3);
        Edge.of(18, "-1, or notices such as there are: 6").laid(WORD + "n0;".repeat(6)).bounds("matched(#)", -1, 5);
        Edge.of(18, "no notices").laid(WORD + "r0,0;")
                .asks("matched(-1)=0 matched(0)=BAD matched(-2)=BAD matched(LOW)=BAD matched(HIGH)=BAD");
        Edge.of(18, "no readers").laid(WORD + "n0;").asks("matched(-1)=0 matched(0)=NONE matched(1)=BAD");
        Edge.of(18, "a notice that nobody answers").laid(WORD + "r0,1;n0;").asks("matched(-1)=0 matched(0)=NONE");
        Edge.of(18, "one to one").laid(WORD + "r0,0;n0;").asks("matched(-1)=1 matched(0)=0");
        Edge.of(18, "six to six").laid(WORD + "r0,0;".repeat(6) + "n0;".repeat(6))
                .asks("matched(-1)=6 matched(0)=0 matched(1)=1 matched(2)=2 matched(3)=3 matched(4)=4 matched(5)=5");
        Edge.of(18, "no reader has two: six to one").laid(WORD + "r0,0;" + "n0;".repeat(6))
                .asks("matched(-1)=1 matched(0)=0 matched(1)=NONE matched(5)=NONE");
        Edge.of(18, "no notice has two: one to six").laid(WORD + "r0,0;".repeat(6) + "n0;")
                .asks("matched(-1)=1 matched(0)=0 matched(1)=BAD");
        // Word 0 is answered by both, word 1 by reader 0 alone, word 2 by reader 1 alone.
        String both = "w1,1,1;w1,1,0;w1,0,1;r0,1;r1,1;";
        Edge.of(18, "as many as can be ahead of the lowest reader").laid(both + "n0;n1;")
                .asks("matched(-1)=2 matched(0)=1 matched(1)=0");
        Edge.of(18, "the lowest reader where it costs none").laid(both + "n0;n2;")
                .asks("matched(-1)=2 matched(0)=0 matched(1)=1");
        Edge.of(18, "nobody behind all").laid(both + "n1;n1;").asks("matched(-1)=1 matched(0)=0 matched(1)=NONE");
        Edge.of(18, "of two that leave one out the first").laid(both + "n0;n1;n2;")
                .asks("matched(-1)=2 matched(0)=0 matched(1)=NONE matched(2)=1");
        Edge.of(18, "notice 0 ahead of 1, 1 ahead of 2").laid(both + "n1;n2;n0;")
                .asks("matched(-1)=2 matched(0)=0 matched(1)=1 matched(2)=NONE");
        Edge.of(18, "one that nobody answers between").laid(both + "n0;n000;n1;")
                .asks("matched(-1)=2 matched(0)=1 matched(1)=NONE matched(2)=0");
        Edge.of(18, "fewer behind more").laid(WORD + "r0,0;r0,0;n0;n0;n0;").asks("matched(-1)=2")
                .calls("take(0)=2 take(0)=1")
                .asks("matched(-1)=1 matched(0)=0 matched(1)=BAD").calls("take(0)=0")
                .asks("matched(-1)=0 matched(0)=BAD");
    }

    private static void near() {
        Edge.of(19, "-1, or notices such as there are: 4").bounds("near(#)", -1, 3);
        Edge.of(19, "-1, or notices such as there are: 6").laid(WORD + "n0;".repeat(6)).bounds("near(#)", -1, 5);
        Edge.of(19, "no notices").laid(WORD).asks("near(-1)=0 near(0)=BAD near(-2)=BAD near(LOW)=BAD near(HIGH)=BAD");
        Edge.of(19, "one notice is not near itself").laid(WORD + "n0;").asks("near(-1)=0 near(0)=0 near(1)=BAD");
        Edge.of(19, "two alike are not near").laid(WORD + "n000;n000;").asks("near(-1)=0 near(0)=0 near(1)=0");
        Edge.of(19, "six, each near all others").laid(WORD.repeat(6) + "n0;n1;n2;n3;n4;n5;")
                .asks("near(-1)=15 near(0)=62 near(1)=61 near(2)=59 near(3)=55 near(4)=47 near(5)=31");
        Edge.of(19, "unlike in the first place of five, in the last").laid(WORD.repeat(2) + "n00000;n10000;n00001;")
                .asks("near(-1)=2 near(0)=6 near(1)=1 near(2)=1");
        Edge.of(19, "unlike in each place between").laid(WORD.repeat(2) + "n00000;n01000;n00100;n00010;")
                .asks("near(-1)=3 near(0)=14 near(1)=1");
        Edge.of(19, "unlike in two places").laid(WORD.repeat(2) + "n00;n11;n0000;n1001;")
                .asks("near(-1)=0 near(0)=0 near(2)=0");
        Edge.of(19, "one word more is not of as many").laid(WORD.repeat(2) + "n0;n00;n000;n01;n10;")
                .asks("near(-1)=2 near(0)=0 near(1)=24 near(2)=0 near(3)=2 near(4)=2");
        Edge.of(19, "figures alike in other places").laid(WORD.repeat(2) + "n01;n10;").asks("near(-1)=0 near(0)=0");
        Edge.of(19, "the first word and the eighth").laid(WORD.repeat(8) + "n07;n77;n00;")
                .asks("near(-1)=2 near(0)=6 near(1)=1");
    }

    private static void column() {
        Edge.of(20, "l is 0 to 30").bounds("column(#,0)", 0, 30).bounds("column(#,1)", 0, 30);
        Edge.of(20, "what is 0 or 1").bounds("column(0,#)", 0, 1).bounds("column(30,#)", 0, 1)
                .asks("column(31,2)=BAD column(-1,-1)=BAD");
        Edge.of(20, "no words: the empty set").asks("column(30,0)=15 column(0,0)=0 column(0,1)=0");
        Edge.of(20, "no notices").laid(WORD)
                .asks("column(0,0)=0 column(0,1)=0 column(30,0)=0 column(30,1)=0 column(31,0)=BAD");
        Edge.of(20, "all taken out").calls("take(0)=3 take(0)=2 take(0)=1 take(0)=0")
                .asks("column(30,0)=0 column(30,1)=0");
        Edge.of(20, "fewer notices behind more").asks("column(30,0)=15 column(30,1)=21").calls("take(3)=3")
                .asks("column(30,0)=7 column(30,1)=20").calls("take(0)=2").asks("column(30,0)=3 column(30,1)=15");
        Edge.of(20, "a dear one taken out is worth nothing").laid("w1,0,0;w9,0,0;n0;n1;").asks("column(30,0)=3")
                .calls("take(1)=1").asks("column(30,0)=1 column(30,1)=1");
        Edge.of(20, "as many words as fit, one fewer").laid("w1,0,0;n00000;")
                .asks("column(5,0)=1 column(5,1)=9 column(4,0)=0 column(4,1)=0");
        Edge.of(20, "30 words in six notices, one fewer").laid("w9,0,0;" + "n00000;".repeat(6))
                .asks("column(30,0)=63 column(30,1)=294 column(29,0)=31 column(29,1)=245 column(25,0)=31")
                .asks("column(24,0)=15");
        Edge.of(20, "of several the lowest").laid(WORD + "n0;n0;n0;n0;n0;n0;")
                .asks("column(1,0)=1 column(2,0)=3 column(3,0)=7 column(4,0)=15 column(5,0)=31 column(6,0)=63")
                .asks("column(7,0)=63");
        Edge.of(20, "of several the lowest, not the one of most notices").laid("w2,0,0;w1,0,0;w3,0,0;w2,0,0;n12;n0;n3;")
                .asks("column(2,0)=1 column(2,1)=4 column(3,0)=3 column(3,1)=6 column(4,0)=7 column(1,0)=2");
        Edge.of(20, "of several the lowest, not the one of fewest notices")
                .laid("w2,0,0;w1,0,0;w3,0,0;w2,0,0;n0;n3;n12;")
                .asks("column(2,0)=3 column(2,1)=4");
        Edge.of(20, "most price, not most words").laid("w9,0,0;w1,0,0;n11111;n0;")
                .asks("column(5,0)=1 column(1,0)=2 column(5,1)=9 column(6,1)=18");
        Edge.of(20, "the dearest first is not always best").laid("w9,0,0;w5,0,0;w6,0,0;w1,0,0;n03;n1;n2;")
                .asks("column(2,0)=6 column(2,1)=11");
        Edge.of(20, "1 more for a word a second time").laid("w1,0,0;w1,0,0;n01;n00;")
                .asks("column(2,0)=2 column(2,1)=3");
    }

    public static void main(String[] args) {
        cheapest();
        twofold();
        matched();
        near();
        column();
        Edge.end(16, 20);
    }
}
