/** The edges of promises 13 to 15: what a READER reads in a NOTICE, who ANSWERS it, what it costs. */
public final class EdgeReadingTest {
    private static final String WORD = "w1,0,0;";
    private static final String NO_CODES_OF_FIVE = "0 -1 -5 LOW HIGH 6 7 8 9 10 16 50 61 101 505 1006 10000 "
            + "55550 55556 55559 65555 95555 88888 88889 99999 100000 111111 111115 555555 1111111111";

    /** None of these is a CODE of the first TEXT's five WORDS. */
    private static void noCode(int promise, String call) {
        Edge edge = Edge.of(promise, "codes of words there are: 5");
        for (String code : NO_CODES_OF_FIVE.split(" ")) {
            edge.asks(call.replace("#", code) + "=BAD");
        }
    }

    private static void reads() {
        noCode(13, "reads(0,#)");
        noCode(13, "reads(4,#)");
        Edge.of(13, "the least code and the highest").laid(WORD.repeat(7) + "w1,1,2;r0,0;r1,0;r2,0;r3,0;")
                .asks("reads(0,1)=0 reads(1,1)=0 reads(0,88888)=5 reads(1,88888)=0 reads(2,88888)=0 reads(3,88888)=5")
                .asks("reads(0,88889)=BAD reads(0,0)=BAD reads(0,9)=BAD");
        Edge.of(13, "readers such as there are: 5").bounds("reads(#,1)", 0, 4);
        Edge.of(13, "readers such as there are: 6").laid(WORD + "r0,0;".repeat(6)).bounds("reads(#,1)", 0, 5);
        Edge.of(13, "readers such as there are: none").laid(WORD)
                .asks("reads(0,1)=BAD reads(-1,1)=BAD reads(LOW,1)=BAD reads(HIGH,1)=BAD");
        Edge.of(13, "both wrong").asks("reads(-1,0)=BAD reads(5,6)=BAD reads(LOW,LOW)=BAD reads(HIGH,HIGH)=BAD");
        Edge.of(13, "modulo 10 for a plain one: 9, 10, 19, 20, 45").laid("w1,9,0;w1,1,0;w1,0,0;r0,0;")
                .asks("reads(0,1)=9 reads(0,12)=0 reads(0,112)=9 reads(0,1122)=0 reads(0,11111)=5 reads(0,333)=0");
        Edge.of(13, "modulo 10 for a knowing one: 9, 10, 19, 20, 45").laid("w1,0,9;w1,0,1;w1,5,0;r1,0;")
                .asks("reads(0,1)=9 reads(0,12)=0 reads(0,112)=9 reads(0,1122)=0 reads(0,11111)=5 reads(0,333)=0");
        Edge.of(13, "a fond one by place, modulo 10: 1 for the first to 5 for the fifth").laid("w1,0,1;w1,9,0;r2,0;")
                .asks("reads(0,1)=1 reads(0,21)=2 reads(0,221)=3 reads(0,2221)=4 reads(0,22221)=5 reads(0,12222)=1")
                .asks("reads(0,11)=3 reads(0,111)=6 reads(0,1111)=0 reads(0,11111)=5");
        Edge.of(13, "the most that a fond one adds: 135").laid("w1,0,9;r2,5;").asks("reads(0,11111)=5 reads(0,11)=7");
        Edge.of(13, "police: plain and knowing, modulo 10 of both: 9 and 9, 9 and 1, 45 and 45")
                .laid("w1,9,9;w1,9,1;r3,0;")
                .asks("reads(0,1)=8 reads(0,2)=0 reads(0,11111)=0 reads(0,12)=8");
        Edge.of(13, "by what a word is taken for now").calls("takeFor(0,0)=4")
                .asks("reads(0,1)=1 reads(1,1)=0 reads(2,1)=0 reads(3,1)=1").calls("undo()=0")
                .asks("reads(1,1)=4 reads(3,1)=5");
        Edge.of(13, "a notice that is not in can be read").calls("take(0)=3 take(0)=2 take(0)=1 take(0)=0")
                .asks("reads(0,12)=6 reads(1,54321)=0");
    }

    private static void answers() {
        noCode(14, "answers(#)");
        Edge.of(14, "the least code and the highest").laid(WORD.repeat(8) + "r0,0;")
                .asks("answers(1)=1 answers(88888)=1 answers(88889)=BAD answers(0)=BAD answers(98888)=BAD")
                .asks("answers(9)=BAD");
        Edge.of(14, "without readers nobody").laid(WORD).asks("answers(1)=0 answers(11111)=0 answers(2)=BAD");
        Edge.of(14, "six of six, none of six").laid("w1,1,1;w1,0,0;r0,1;r1,1;r2,1;r3,2;r1,1;r0,1;")
                .asks("answers(1)=63 answers(2)=0");
        Edge.of(14, "the first bit and the last alone").laid("w1,0,1;r0,0;r0,1;r0,2;r0,3;r0,4;r1,1;")
                .asks("answers(1)=33");
        Edge.of(14, "who wants 0 answers what adds up to 10").laid("w1,5,5;r0,0;r1,0;r2,5;r3,0;")
                .asks("answers(11)=15 answers(1)=12 answers(1111)=11");
        Edge.of(14, "who wants 9 answers 9 and 19").laid("w1,9,0;w1,5,0;r0,9;")
                .asks("answers(1)=1 answers(221)=1 answers(2)=0");
        Edge.of(14, "by what a word is taken for now").calls("takeFor(0,9)=4").asks("answers(12)=1 answers(1)=2")
                .calls("undo()=0").asks("answers(12)=7 answers(1)=4");
    }

    private static void price() {
        noCode(15, "price(#)");
        Edge.of(15, "the least code and the highest").laid("w1,0,0;" + "w9,0,0;".repeat(7))
                .asks("price(1)=1 price(88888)=49 price(88889)=BAD price(0)=BAD price(9)=BAD price(98888)=BAD");
        Edge.of(15, "the least price of five words, all unlike, and the highest")
                .laid("w1,0,0;".repeat(5) + "w9,0,0;w9,0,0;w9,0,0;")
                .asks("price(12345)=5 price(67867)=47 price(66666)=49 price(11111)=9");
        Edge.of(15, "1 more for a second time, a third, ..").laid("w1,0,0;w1,0,0;")
                .asks("price(1)=1 price(11)=3 price(111)=5 price(1111)=7 price(11111)=9 price(12)=2");
        Edge.of(15, "a second time anywhere").laid("w1,0,0;w1,0,0;w1,0,0;w1,0,0;")
                .asks("price(121)=4 price(12341)=6 price(12342)=6 price(1212)=6 price(12121)=8 price(11223)=7")
                .asks("price(12344)=6");
        Edge.of(15, "the last of eight words twice").laid(WORD.repeat(8)).asks("price(88)=3 price(818)=4 price(78)=2");
        Edge.of(15, "what a word is taken for costs nothing").calls("takeFor(0,9)=4").asks("price(1)=3 price(12)=5");
    }

    public static void main(String[] args) {
        reads();
        answers();
        price();
        Edge.end(13, 15);
    }
}
