/** The edges of promises 1 to 8: a new object, THE TEXT, its FAULT, what is LAID by it and how it is told. */
public final class EdgePapersTest {
    private static final String FIRST =
            "w3,1,4;w2,5,5;w4,2,7;w1,0,3;w5,6,1;r0,6;r1,9;r2,4;r3,8;r1,2;n01;n24;n130;n3;";
    private static final String WORD = "w1,0,0;";
    private static final String READER = "r0,0;";
    private static final String EIGHT = WORD.repeat(8);
    private static final String FULLEST = EIGHT + READER.repeat(6) + "n77777;".repeat(6);

    private static void aNewObject() {
        Edge.of(1, "nothing is told, undone, kept, written")
                .asks("count(3)=0 count(4)=0 count(5)=0 count(6)=0 undo()=NO back()=NO fault()=NONE lay()=NO")
                .calls("forget()=0 wipe()=0");
        Edge.of(1, "laid at first: words")
                .asks("count(0)=5 word(0,0)=3 word(0,1)=1 word(0,2)=4 word(1,0)=2 word(1,1)=5 word(1,2)=5")
                .asks("word(2,0)=4 word(2,1)=2 word(2,2)=7 word(3,0)=1 word(3,1)=0 word(3,2)=3")
                .asks("word(4,0)=5 word(4,1)=6 word(4,2)=1 word(5,0)=BAD");
        Edge.of(1, "laid at first: readers")
                .asks("count(1)=5 reader(0,0)=0 reader(0,1)=6 reader(1,0)=1 reader(1,1)=9 reader(2,0)=2")
                .asks("reader(2,1)=4 reader(3,0)=3 reader(3,1)=8 reader(4,0)=1 reader(4,1)=2 reader(5,0)=BAD");
        Edge.of(1, "laid at first: notices")
                .asks("count(2)=4 notice(0,0)=12 notice(1,0)=35 notice(2,0)=241 notice(3,0)=4 notice(4,0)=BAD");
        Edge.of(1, "the first text laid anew is the same").written(FIRST)
                .asks("fault()=NONE count(6)=76").calls("lay()=5 count(1)=5 count(2)=4 notice(2,0)=241 word(4,2)=1");
        BackColumns used = new BackColumns();
        used.put(1);
        used.takeFor(0, 9);
        used.tell(0, 1, 1);
        used.keep();
        used.write('w');
        Edge.of(1, "another object knows nothing of this one")
                .asks("count(2)=4 count(3)=0 count(4)=0 count(5)=0 count(6)=0 word(0,2)=4 speaks()=31");
    }

    private static void write() {
        Edge.of(2, "a letter is 32 to 126").bounds("write(#)", 32, 126).asks("write(0)=BAD write(-1)=BAD count(6)=2");
        Edge edge = Edge.of(2, "each letter of 32 to 126 comes behind");
        for (int letter = 32; letter <= 126; letter++) {
            edge.calls("write(" + letter + ")=" + (letter - 31));
        }
        Edge.of(2, "200 letters, and one more is FULL").written("x".repeat(198))
                .calls("write(119)=199 write(119)=200")
                .asks("write(119)=FULL write(32)=FULL write(126)=FULL count(6)=200");
        Edge.of(2, "of several the first: no letter behind 200 is BAD").written("x".repeat(200))
                .asks("write(31)=BAD write(127)=BAD write(LOW)=BAD write(HIGH)=BAD write(119)=FULL");
        Edge.of(2, "what is refused is no letter of the text").written("w1,0")
                .asks("write(31)=BAD write(127)=BAD").written(",0;").asks("fault()=NONE count(6)=7").calls("lay()=1");
        Edge.of(2, "what is refused as FULL is no letter of the text").written("w1,0,0;" + "x".repeat(193))
                .asks("write(32)=FULL fault()=7").calls("wipe()=200 write(119)=1").asks("fault()=0");
        Edge.of(2, "behind 200 letters wiped there is room again").written("x".repeat(200)).asks("write(119)=FULL")
                .calls("wipe()=200 write(119)=1 count(6)=1");
        Edge.of(2, "the paper stays").written("w1,0,0;").asks("count(0)=5 count(1)=5 count(2)=4 word(0,0)=3");
    }

    private static void wipe() {
        Edge.of(3, "an empty text was 0 long").calls("wipe()=0 wipe()=0 count(6)=0");
        Edge.of(3, "a text of one letter").calls("write(32)=1 wipe()=1 wipe()=0");
        Edge.of(3, "a text of 200 letters").written("x".repeat(200)).calls("wipe()=200 count(6)=0 wipe()=0");
        Edge.of(3, "what was wiped does not come back").written("w1,0,0;n0;").calls("wipe()=10 write(119)=1")
                .asks("fault()=0 lay()=NO").written("2,0,0;").asks("fault()=NONE")
                .calls("lay()=1 count(2)=0 word(0,0)=2");
        Edge.of(3, "all but the text stays").written("x").calls("put(1)=5 tell(0,1,1)=1 keep()=1 wipe()=1")
                .asks("count(0)=5 count(1)=5 count(2)=5 count(3)=1 count(4)=1 count(5)=1 count(6)=0");
        Edge.of(3, "what is laid stays").written(WORD).calls("lay()=1 wipe()=7 count(0)=1 word(0,0)=1")
                .asks("lay()=NO");
    }

    private static void sound(String sentence, String text) {
        Edge.of(4, sentence + ": " + text).written(text).asks("fault()=NONE");
    }

    private static void unsound(String sentence, String text, int place) {
        Edge.of(4, sentence + ": " + text).written(text).asks("fault()=" + place + " lay()=NO fault()=" + place);
    }

    private static void fault() {
        sound("an empty text has none", "");
        for (String word : new String[] {"w1,0,0;", "w9,0,0;", "w1,9,0;", "w1,0,9;", "w9,9,9;"}) {
            sound("a price is 1 to 9, what a word means and is taken for 0 to 9", word);
        }
        for (String word : new String[] {"w0,0,0;", "w:,0,0;", "w/,0,0;", "w10,0,0;", "w01,0,0;", "w-1,0,0;",
            "w+1,0,0;"}) {
            unsound("a price is 1 to 9, of one figure", word, 0);
        }
        for (String word : new String[] {"w1,10,0;", "w1,00,0;", "w1,:,0;", "w1,/,0;", "w1,-1,0;", "w1,,0;"}) {
            unsound("what a word means is 0 to 9, of one figure", word, 0);
        }
        for (String word : new String[] {"w1,0,10;", "w1,0,00;", "w1,0,:;", "w1,0,/;", "w1,0,-1;", "w1,0,;"}) {
            unsound("what a word is taken for is 0 to 9, of one figure", word, 0);
        }
        for (String word : new String[] {"w;", "w1;", "w1,0;", "w1,0,0,0;", "w1,0,0,", "w1;0,0;", "w1,0;0;", "w100;",
            "w 1,0,0;", "w1 ,0,0;", "w1, 0,0;", "w1,0,0 ;", "W1,0,0;", "w1.0,0;", "w1,0.0;", "w1,0,0:"}) {
            unsound("a word is told as wP,A,B;", word, 0);
        }
        for (String reader : new String[] {"r0,0;", "r1,0;", "r2,0;", "r3,0;", "r0,9;", "r3,9;"}) {
            sound("a kind is 0 to 3, a want 0 to 9", reader);
        }
        for (String reader : new String[] {"r4,0;", "r9,0;", "r/,0;", "r:,0;", "r-1,0;", "r00,0;", "r10,0;"}) {
            unsound("a kind is 0 to 3, of one figure", reader, 0);
        }
        for (String reader : new String[] {"r0,10;", "r0,00;", "r0,/;", "r0,:;", "r0,-1;", "r0,;"}) {
            unsound("a want is 0 to 9, of one figure", reader, 0);
        }
        for (String reader : new String[] {"r;", "r0;", "r,0;", "r0,0,0;", "r0;0;", "r00;", "r 0,0;", "r0,0 ;", "R0,0;",
            "r0.0;", "r0,0,", "r0,0:"}) {
            unsound("a reader is told as rK,W;", reader, 0);
        }
    }

    private static void faultOfNotices() {
        sound("a notice of one word", WORD + "n0;");
        sound("a notice of five words", WORD + "n00000;");
        unsound("a notice of no word", WORD + "n;", 7);
        unsound("a notice of six words", WORD + "n000000;", 7);
        unsound("a notice of six words, the sixth not told", WORD + "n000001;", 7);
        sound("figures 0 to 7", EIGHT + "n7;n01234;n76543;");
        unsound("figures 0 to 7, not 8", EIGHT + "n8;", 56);
        unsound("figures 0 to 7, not 9", EIGHT + "n9;", 56);
        unsound("figures 0 to 7, not 8 in the fifth place", EIGHT + "n00008;", 56);
        unsound("a word told ahead", WORD + "n1;", 7);
        unsound("each of them told ahead", WORD + "n00001;", 7);
        unsound("each of them told ahead, the first too", WORD + "n10;", 7);
        unsound("told ahead, not behind", "n0;" + WORD, 0);
        unsound("told ahead, not behind", WORD + "n01;" + WORD, 7);
        sound("told ahead, with items between", WORD + "n0;" + WORD + READER + "n01;");
        unsound("a notice without any word told", "n0;", 0);
        unsound("a notice without any word told", READER + "n0;", 5);
        for (String notice : new String[] {"n", "n0", "n0,", "n0,0;", "n0 ;", "n 0;", "n-0;", "n/;", "n:;", "N0;",
            "na;", "n0:", "n00000", "n00000,"}) {
            unsound("a notice is told as nABC..;", WORD + notice, 7);
        }
    }

    private static void faultOfMany() {
        sound("8 words", EIGHT);
        unsound("8 words at most", EIGHT + WORD, 56);
        unsound("8 words at most, others between", EIGHT + READER + "n7;" + WORD, 64);
        sound("6 readers", READER.repeat(6));
        unsound("6 readers at most", READER.repeat(7), 30);
        unsound("6 readers at most, others between", READER.repeat(6) + WORD + READER, 37);
        sound("6 notices", WORD + "n0;".repeat(6));
        unsound("6 notices at most", WORD + "n0;".repeat(7), 25);
        unsound("6 notices at most, others between", WORD + "n0;".repeat(6) + READER + "n0;", 30);
        sound("as many of all as there may be", FULLEST);
        for (String more : new String[] {WORD, READER, "n0;", "x", " "}) {
            unsound("as many of all as there may be, and one more", FULLEST + more, 128);
        }
    }

    private static void faultPlaces() {
        unsound("the first of two", WORD + "w0,0,0;r4,0;", 7);
        unsound("the first of two", WORD + "r4,0;w0,0,0;", 7);
        unsound("the first letter of the item, not the letter that is wrong", WORD + WORD + "w1,0,x;", 14);
        unsound("no item begins so", "x", 0);
        unsound("no item begins so", ";", 0);
        unsound("no item begins so", WORD + ";", 7);
        unsound("no item begins so", WORD + " " + WORD, 7);
        unsound("no item begins so", "1,0,0;", 0);
        unsound("an item needs its ;", "w1,0,0", 0);
        unsound("200 letters", "x".repeat(200), 0);
        unsound("200 letters, the fault behind as much as there may be", FULLEST + "x".repeat(72), 128);
        int begin = 0;
        for (int length = 1; length <= FIRST.length(); length++) {
            String ahead = FIRST.substring(0, length);
            if (ahead.endsWith(";")) {
                sound("items that end", ahead);
                begin = length;
            } else {
                unsound("the last item does not end", ahead, begin);
            }
        }
        Edge.of(4, "the paper stays").written("w9,9,9;r").calls("put(1)=5 tell(0,1,1)=1 keep()=1")
                .asks("fault()=7 fault()=7 count(0)=5 count(1)=5 count(2)=5 count(3)=1 count(4)=1 count(5)=1")
                .asks("count(6)=8");
        Edge.of(4, "the text stays, and goes on").written(WORD + "r").asks("fault()=7").written("0,0;")
                .asks("fault()=NONE")
                .calls("lay()=1 count(1)=1");
    }

    private static void lay() {
        Edge.of(5, "an empty text: NO").calls("put(1)=5 takeFor(0,9)=4 tell(0,1,1)=1 keep()=1").asks("lay()=NO")
                .asks("count(2)=5 count(3)=1 count(4)=2 count(5)=1");
        Edge.of(5, "a text without a word: NO").written("r0,0;r1,1;").calls("take(0)=3 tell(0,1,0)=1 keep()=1")
                .asks("fault()=NONE lay()=NO count(1)=5 reader(0,1)=6 count(3)=1 count(4)=1 count(5)=1");
        Edge.of(5, "a text with a fault: NO").written("w9,9,9;r0,0;n0;w")
                .calls("put(55)=5 tell(4,1,0)=1 keep()=1 keep()=2")
                .asks("lay()=NO lay()=NO count(0)=5 word(0,0)=3 count(3)=1 count(4)=1 count(5)=2 count(6)=16");
        Edge.of(5, "a text with a fault at its first item: NO").written("x" + WORD).asks("lay()=NO count(0)=5");
        Edge.of(5, "a word at least").written("w1,0,0;").calls("lay()=1 count(0)=1 count(1)=0 count(2)=0");
        Edge.of(5, "as many of all as there may be").written(FULLEST)
                .calls("lay()=8 count(0)=8 count(1)=6 count(2)=6 notice(5,0)=88888 reader(5,1)=0 word(7,0)=1");
        Edge.of(5, "nothing is told").written("w1,0,0;r0,0;").calls("tell(0,1,1)=1 tell(0,1,0)=2 lay()=1")
                .asks("count(3)=0 speaks()=1 taken(0)=1023").calls("forget()=0");
        Edge.of(5, "nothing is undone").written("w1,0,0;n0;").calls("put(1)=5 take(0)=4 takeFor(0,9)=4 lay()=1")
                .asks("undo()=NO count(4)=0 count(2)=1 word(0,2)=0");
        Edge.of(5, "nothing is kept").written("w1,0,0;n0;").calls("keep()=1 put(1)=5 keep()=2 lay()=1")
                .asks("back()=NO count(5)=0 count(2)=1").calls("keep()=1 keep()=2").asks("keep()=FULL");
        Edge.of(5, "the text stays").written("w7,0,0;").calls("lay()=1 count(6)=7 write(59)=8")
                .asks("lay()=NO fault()=7")
                .asks("word(0,0)=7");
        Edge.of(5, "laid again: as at first").written("w7,0,5;n0;")
                .calls("lay()=1 takeFor(0,9)=5 put(11)=2 tell(0,1,1)=BAD keep()=1 lay()=1 word(0,2)=5 count(2)=1")
                .asks("undo()=NO back()=NO");
        Edge.of(5, "the words, readers and notices of before are gone").written("w1,0,0;").calls("lay()=1")
                .asks("word(1,0)=BAD reader(0,0)=BAD notice(0,0)=BAD put(2)=BAD put(12)=BAD price(2)=BAD answers(1)=0");
        Edge.of(5, "fewer behind more").written(FULLEST).calls("lay()=8 wipe()=128").written("w2,3,4;r1,4;n00;")
                .calls("lay()=1 count(0)=1 count(1)=1 count(2)=1 notice(0,0)=11 answers(1)=1")
                .asks("word(1,0)=BAD reader(1,0)=BAD notice(1,0)=BAD");
        Edge.of(5, "what was laid by is not told by a later text").written("w2,3,4;").calls("lay()=1 wipe()=7")
                .written("w9,").asks("lay()=NO word(0,0)=2 word(0,1)=3 word(0,2)=4");
    }

    private static void word() {
        Edge.of(6, "words such as there are: 5").bounds("word(#,0)", 0, 4).bounds("word(#,2)", 0, 4)
                .asks("word(7,0)=BAD");
        Edge.of(6, "words such as there are: 8").laid(EIGHT).bounds("word(#,0)", 0, 7);
        Edge.of(6, "words such as there are: 1").laid(WORD).bounds("word(#,1)", 0, 0);
        Edge.of(6, "what is 0 to 2").bounds("word(0,#)", 0, 2).asks("word(0,3)=BAD word(4,3)=BAD");
        Edge.of(6, "both wrong").asks("word(-1,-1)=BAD word(5,3)=BAD word(LOW,HIGH)=BAD word(HIGH,LOW)=BAD");
        Edge.of(6, "price 1 and 9, plainly 0 and 9, taken for 0 and 9").laid("w1,0,9;w9,9,0;")
                .asks("word(0,0)=1 word(0,1)=0 word(0,2)=9 word(1,0)=9 word(1,1)=9 word(1,2)=0");
        Edge.of(6, "taken for something else, undone").calls("takeFor(4,0)=1")
                .asks("word(4,2)=0 word(4,1)=6 word(4,0)=5")
                .calls("undo()=0").asks("word(4,2)=1");
    }

    private static void reader() {
        Edge.of(7, "readers such as there are: 5").bounds("reader(#,0)", 0, 4).bounds("reader(#,1)", 0, 4);
        Edge.of(7, "readers such as there are: 6").laid(WORD + READER.repeat(6)).bounds("reader(#,1)", 0, 5);
        Edge.of(7, "readers such as there are: none").laid(WORD)
                .asks("reader(0,0)=BAD reader(0,1)=BAD reader(-1,0)=BAD reader(LOW,0)=BAD reader(HIGH,1)=BAD");
        Edge.of(7, "what is 0 or 1").bounds("reader(0,#)", 0, 1).asks("reader(4,2)=BAD reader(5,2)=BAD");
        Edge.of(7, "kind 0 and 3, want 0 and 9").laid(WORD + "r0,9;r3,0;")
                .asks("reader(0,0)=0 reader(0,1)=9 reader(1,0)=3 reader(1,1)=0");
    }

    private static void notice() {
        Edge.of(8, "notices such as there are: 4").bounds("notice(#,0)", 0, 3).bounds("notice(#,3)", 0, 3);
        Edge.of(8, "notices such as there are: 6").calls("put(1)=5 put(2)=6").bounds("notice(#,1)", 0, 5);
        Edge.of(8, "notices such as there are: none").laid(WORD)
                .asks("notice(0,0)=BAD notice(0,3)=BAD notice(-1,0)=BAD notice(LOW,0)=BAD notice(HIGH,0)=BAD");
        Edge.of(8, "notices such as there are: all taken out").calls("take(0)=3 take(0)=2 take(0)=1 take(0)=0")
                .asks("notice(0,0)=BAD notice(3,0)=BAD");
        Edge.of(8, "what is 0 to 3").bounds("notice(0,#)", 0, 3).asks("notice(3,4)=BAD notice(4,4)=BAD");
        Edge.of(8, "the least code and the highest").laid(EIGHT + "n0;n77777;")
                .asks("notice(0,0)=1 notice(0,1)=1 notice(0,2)=1 notice(1,0)=88888 notice(1,1)=9 notice(1,2)=5");
        Edge.of(8, "the highest price").laid("w9,0,0;n00000;").asks("notice(0,1)=49 notice(0,2)=5");
        Edge.of(8, "nobody answers, and everybody").laid("w1,1,1;w1,0,0;r0,1;r1,1;r2,1;r3,2;r0,1;r1,1;n1;n0;")
                .asks("notice(0,3)=0 notice(1,3)=63");
        Edge.of(8, "without readers nobody answers").laid(WORD + "n0;").asks("notice(0,3)=0");
        Edge.of(8, "who answers by what a word is taken for now").calls("takeFor(0,9)=4").asks("notice(0,3)=1")
                .calls("undo()=0").asks("notice(0,3)=7");
    }

    public static void main(String[] args) {
        aNewObject();
        write();
        wipe();
        fault();
        faultOfNotices();
        faultOfMany();
        faultPlaces();
        lay();
        word();
        reader();
        notice();
        Edge.end(1, 8);
    }
}
