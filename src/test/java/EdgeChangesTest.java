/** The edges of promises 9 to 12: NOTICES put in and taken out, WORDS taken for something else, UNDONE. */
public final class EdgeChangesTest {
    private static final String WORD = "w1,0,0;";

    private static void put() {
        Edge.of(9, "a code is 1 at least").asks("put(0)=BAD put(-1)=BAD put(-12)=BAD put(LOW)=BAD").calls("put(1)=5");
        Edge.of(9, "a code is 88888 at most").laid(WORD.repeat(8)).calls("put(88888)=1")
                .asks("put(88889)=BAD put(88898)=BAD put(89888)=BAD put(98888)=BAD put(99999)=BAD put(HIGH)=BAD");
        Edge.of(9, "figures are 1 to 8: no 9").laid(WORD.repeat(8)).calls("put(8)=1 put(88)=2 put(81)=3")
                .asks("put(9)=BAD put(19)=BAD put(91)=BAD put(191)=BAD put(11119)=BAD put(91111)=BAD");
        Edge.of(9, "figures are 1 to 8: no 0").laid(WORD.repeat(8))
                .asks("put(10)=BAD put(100)=BAD put(101)=BAD put(110)=BAD put(1011)=BAD put(11110)=BAD put(10000)=BAD")
                .asks("put(80808)=BAD put(80000)=BAD put(88880)=BAD");
        Edge.of(9, "one to five words").laid(WORD)
                .calls("put(1)=1 put(11)=2 put(111)=3 put(1111)=4 put(11111)=5 notice(4,2)=5")
                .asks("put(111111)=BAD put(1111111)=BAD put(1111111111)=BAD put(100000)=BAD");
        Edge.of(9, "codes of words there are: 5").calls("put(5)=5 put(55555)=6 take(5)=5 take(4)=4")
                .asks("put(6)=BAD put(16)=BAD put(61)=BAD put(161)=BAD put(55556)=BAD put(65555)=BAD put(88888)=BAD");
        Edge.of(9, "codes of words there are: 7").laid(WORD.repeat(7)).calls("put(77777)=1")
                .asks("put(8)=BAD put(88888)=BAD put(77778)=BAD put(87777)=BAD");
        Edge.of(9, "codes of words there are: 1").laid(WORD).calls("put(11111)=1")
                .asks("put(2)=BAD put(12)=BAD put(21)=BAD");
        Edge.of(9, "the negative of a code is none").laid(WORD.repeat(8))
                .asks("put(-1)=BAD put(-8)=BAD put(-88888)=BAD")
                .asks("put(-2147483647)=BAD put(-11)=BAD");
        Edge.of(9, "FULL: there are 6").calls("put(1)=5 put(2)=6")
                .asks("put(3)=FULL put(1)=FULL put(55555)=FULL count(2)=6");
        Edge.of(9, "of several the first: no code behind 6 is BAD").calls("put(1)=5 put(2)=6")
                .asks("put(0)=BAD put(6)=BAD put(10)=BAD put(111111)=BAD put(LOW)=BAD put(HIGH)=BAD put(3)=FULL");
        Edge.of(9, "FULL is no change that can be undone").calls("put(1)=5 put(2)=6").asks("put(3)=FULL count(4)=2");
        Edge.of(9, "behind 6 and one taken out there is room").calls("put(1)=5 put(2)=6").asks("put(3)=FULL")
                .calls("take(0)=5 put(3)=6 notice(5,0)=3").asks("put(4)=FULL");
        Edge.of(9, "behind 6 and one undone there is room").calls("put(1)=5 put(2)=6 undo()=1 put(3)=6 notice(5,0)=3");
        Edge.of(9, "from none to 6").laid(WORD)
                .calls("put(1)=1 put(11)=2 put(111)=3 put(1)=4 put(11)=5 put(111)=6").asks("put(1)=FULL");
        Edge.of(9, "behind the others").calls("put(54321)=5 put(1)=6")
                .asks("notice(3,0)=4 notice(4,0)=54321 notice(5,0)=1 notice(0,0)=12");
        Edge.of(9, "one that is there already comes too").calls("put(12)=5").asks("notice(0,0)=12 notice(4,0)=12");
    }

    private static void take() {
        Edge.of(10, "notices such as there are: 4")
                .asks("take(-1)=BAD take(4)=BAD take(5)=BAD take(6)=BAD take(-2)=BAD")
                .asks("take(LOW)=BAD take(HIGH)=BAD take(256)=BAD take(65536)=BAD count(4)=0 count(2)=4");
        Edge.of(10, "notices such as there are: 6, the last").calls("put(1)=5 put(2)=6").asks("take(6)=BAD")
                .calls("take(5)=5")
                .asks("take(5)=BAD notice(4,0)=1");
        Edge.of(10, "notices such as there are: none").laid(WORD)
                .asks("take(0)=BAD take(-1)=BAD take(LOW)=BAD take(HIGH)=BAD");
        Edge.of(10, "the first: those behind it come one down").calls("put(1)=5 put(2)=6 take(0)=5")
                .asks("notice(0,0)=35 notice(1,0)=241 notice(2,0)=4 notice(3,0)=1 notice(4,0)=2 notice(5,0)=BAD");
        Edge.of(10, "one between: those behind it come one down").calls("put(1)=5 put(2)=6 take(2)=5")
                .asks("notice(0,0)=12 notice(1,0)=35 notice(2,0)=4 notice(3,0)=1 notice(4,0)=2 notice(5,0)=BAD");
        Edge.of(10, "the last: nothing comes down").calls("take(3)=3")
                .asks("notice(0,0)=12 notice(1,0)=35 notice(2,0)=241 notice(3,0)=BAD");
        Edge.of(10, "until none is left").calls("take(3)=3 take(2)=2 take(1)=1 take(0)=0")
                .asks("take(0)=BAD count(2)=0")
                .calls("put(1)=1 notice(0,0)=1");
        Edge.of(10, "one of two alike").calls("put(12)=5 take(0)=4").asks("notice(3,0)=12 notice(0,0)=35");
        Edge.of(10, "words, readers and what is told stay").calls("tell(0,35,1)=1 take(1)=3")
                .asks("count(0)=5 count(1)=5 count(3)=1 speaks()=30");
    }

    private static void takeFor() {
        Edge.of(11, "words such as there are: 5").bounds("takeFor(#,0)", 0, 4);
        Edge.of(11, "words such as there are: 8").laid(WORD.repeat(8)).bounds("takeFor(#,7)", 0, 7);
        Edge.of(11, "words such as there are: 1").laid(WORD).bounds("takeFor(#,9)", 0, 0);
        Edge.of(11, "b is 0 to 9").bounds("takeFor(0,#)", 0, 9).asks("takeFor(4,10)=BAD takeFor(4,-1)=BAD count(4)=2");
        Edge.of(11, "both wrong").asks("takeFor(-1,-1)=BAD takeFor(5,10)=BAD takeFor(LOW,HIGH)=BAD count(4)=0");
        Edge.of(11, "for what it was: 0 and 9").calls("takeFor(0,0)=4 takeFor(0,9)=0 takeFor(0,0)=9 takeFor(0,4)=0");
        Edge.of(11, "for what it is already").calls("takeFor(0,4)=4 takeFor(0,4)=4").asks("count(4)=2 word(0,2)=4");
        Edge.of(11, "that word alone, and not what it means plainly").calls("takeFor(2,9)=7")
                .asks("word(2,1)=2 word(2,0)=4 word(0,2)=4 word(1,2)=5 word(3,2)=3 word(4,2)=1");
        Edge.of(11, "who answers changes with it").calls("takeFor(3,9)=3")
                .asks("notice(3,3)=2 answers(4)=2 reads(1,4)=9");
    }

    private static void undo() {
        Edge.of(12, "nothing to undo: NO").asks("undo()=NO undo()=NO count(2)=4");
        Edge.of(12, "one put in").calls("put(54321)=5 undo()=0 count(2)=4").asks("undo()=NO notice(4,0)=BAD");
        Edge.of(12, "one taken out comes to its place, those behind it one up").calls("take(1)=3 undo()=0")
                .asks("notice(0,0)=12 notice(1,0)=35 notice(2,0)=241 notice(3,0)=4 undo()=NO");
        Edge.of(12, "the first and the last taken out").calls("take(0)=3 take(2)=2 undo()=1")
                .asks("notice(0,0)=35 notice(2,0)=4").calls("undo()=0").asks("notice(0,0)=12 notice(3,0)=4");
        Edge.of(12, "the last of all taken out").laid(WORD + "n00;").calls("take(0)=0 undo()=0").asks("notice(0,0)=11");
        Edge.of(12, "the sixth put in and taken out").calls("put(1)=5 put(2)=6 take(5)=5 undo()=2")
                .asks("notice(5,0)=2 put(3)=FULL");
        Edge.of(12, "a word taken for something else").calls("takeFor(4,9)=1 takeFor(4,0)=9 undo()=1")
                .asks("word(4,2)=9").calls("undo()=0").asks("word(4,2)=1 undo()=NO");
        Edge.of(12, "a word taken for what it is already").calls("takeFor(4,9)=1 takeFor(4,9)=9 undo()=1")
                .asks("word(4,2)=9").calls("undo()=0").asks("word(4,2)=1");
        Edge.of(12, "the latest first").calls("put(1)=5 takeFor(0,0)=4 take(0)=4 undo()=2")
                .asks("count(2)=5 notice(0,0)=12 word(0,2)=0").calls("undo()=1").asks("word(0,2)=4 count(2)=5")
                .calls("undo()=0").asks("count(2)=4 undo()=NO");
        lastEight();
        Edge.of(12, "a refused change is none").calls("put(1)=5")
                .asks("put(0)=BAD put(6)=BAD take(5)=BAD take(-1)=BAD takeFor(5,0)=BAD takeFor(0,10)=BAD count(4)=1")
                .calls("undo()=0 count(2)=4");
        Edge.of(12, "what is undone is no change").calls("put(1)=5 put(2)=6 undo()=1 undo()=0")
                .asks("undo()=NO count(2)=4");
        Edge.of(12, "what is told, kept, written is no change and stays")
                .calls("put(1)=5 tell(0,1,1)=1 keep()=1 write(119)=1 count(4)=1 undo()=0 count(3)=1 count(5)=1")
                .calls("count(6)=1");
        Edge.of(12, "what was forgotten is not undone").calls("put(1)=5 tell(0,1,1)=1 forget()=1 undo()=0 count(3)=0");
        Edge.of(12, "behind a text laid: NO").written(WORD).calls("put(1)=5 put(2)=6 lay()=1")
                .asks("undo()=NO count(2)=0");
        Edge.of(12, "behind a text not laid: as before").written("x").calls("put(1)=5").asks("lay()=NO count(4)=1")
                .calls("undo()=0");
        Edge.of(12, "behind back: NO").calls("put(1)=5 keep()=1 put(2)=6 back()=0 count(2)=5")
                .asks("undo()=NO count(4)=0");
        Edge.of(12, "behind back refused: as before").calls("put(1)=5").asks("back()=NO count(4)=1").calls("undo()=0");
    }

    private static void lastEight() {
        String eight = "takeFor(0,0)=4 takeFor(0,1)=0 takeFor(0,2)=1 takeFor(0,3)=2 takeFor(0,4)=3 takeFor(0,5)=4 "
                + "takeFor(0,6)=5 takeFor(0,7)=6 ";
        String seven = "undo()=7 word(0,2)=%d undo()=6 word(0,2)=%d undo()=5 word(0,2)=%d undo()=4 word(0,2)=%d "
                + "undo()=3 word(0,2)=%d undo()=2 word(0,2)=%d undo()=1 word(0,2)=%d ";
        Edge.of(12, "8 can be undone").calls(eight + "count(4)=8").calls(String.format(seven, 6, 5, 4, 3, 2, 1, 0))
                .calls("undo()=0 word(0,2)=4").asks("undo()=NO word(0,2)=4");
        Edge.of(12, "the ninth lets the first go").calls(eight + "takeFor(0,8)=7 count(4)=8")
                .calls(String.format(seven, 7, 6, 5, 4, 3, 2, 1)).calls("undo()=0 word(0,2)=0")
                .asks("undo()=NO word(0,2)=0");
        Edge.of(12, "the tenth lets the second go").calls(eight + "takeFor(0,8)=7 takeFor(0,9)=8 count(4)=8")
                .calls(String.format(seven, 8, 7, 6, 5, 4, 3, 2)).calls("undo()=0 word(0,2)=1").asks("undo()=NO");
        Edge.of(12, "of 17 the last 8").calls(eight + "takeFor(0,4)=7 " + eight + "count(4)=8")
                .calls(String.format(seven, 6, 5, 4, 3, 2, 1, 0)).calls("undo()=0 word(0,2)=4").asks("undo()=NO");
        Edge.of(12, "the ninth lets one put in go").calls("put(54321)=5 " + eight)
                .calls("undo()=7 undo()=6 undo()=5 undo()=4 undo()=3 undo()=2 undo()=1 undo()=0 word(0,2)=4 count(2)=5")
                .asks("undo()=NO notice(4,0)=54321");
        Edge.of(12, "the ninth lets one taken out go").calls("take(0)=3 " + eight)
                .calls("undo()=7 undo()=6 undo()=5 undo()=4 undo()=3 undo()=2 undo()=1 undo()=0 word(0,2)=4 count(2)=3")
                .asks("undo()=NO notice(0,0)=35");
        Edge.of(12, "a refused ninth lets nothing go").calls(eight)
                .asks("takeFor(0,10)=BAD takeFor(5,0)=BAD put(0)=BAD take(4)=BAD count(4)=8")
                .calls("undo()=7 undo()=6 undo()=5 undo()=4 undo()=3 undo()=2 undo()=1 undo()=0 word(0,2)=4");
        Edge.of(12, "a ninth that is FULL lets nothing go").calls("put(1)=5 put(2)=6 take(5)=5 put(3)=6")
                .calls("takeFor(0,0)=4 takeFor(0,1)=0 takeFor(0,2)=1 takeFor(0,3)=2 count(4)=8")
                .asks("put(4)=FULL count(4)=8")
                .calls("undo()=7 undo()=6 undo()=5 undo()=4 undo()=3 undo()=2 undo()=1 undo()=0 count(2)=4");
        Edge.of(12, "8, some undone, then to 8 and beyond")
                .calls(eight + "undo()=7 undo()=6 undo()=5 takeFor(1,0)=5 takeFor(1,1)=0 takeFor(1,2)=1 count(4)=8")
                .calls("takeFor(1,3)=2 count(4)=8 undo()=7 word(1,2)=2 undo()=6 undo()=5 undo()=4 word(1,2)=5")
                .calls("word(0,2)=4")
                .calls("undo()=3 undo()=2 undo()=1 undo()=0 word(0,2)=0").asks("undo()=NO");
    }

    public static void main(String[] args) {
        put();
        take();
        takeFor();
        undo();
        Edge.end(9, 12);
    }
}
