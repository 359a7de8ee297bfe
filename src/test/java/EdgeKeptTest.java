/** The edges of promises 30 to 32: what is KEPT, what comes back, and how many there are of all. */
public final class EdgeKeptTest {
    private static final String WORD = "w1,0,0;";

    private static void keep() {
        Edge.of(30, "2 at most: the third is FULL").calls("keep()=1 keep()=2")
                .asks("keep()=FULL keep()=FULL count(5)=2");
        Edge.of(30, "FULL keeps nothing: back gives the second").calls("keep()=1 put(1)=5 keep()=2 put(2)=6")
                .asks("keep()=FULL")
                .calls("back()=1 count(2)=5 back()=0 count(2)=4");
        Edge.of(30, "behind one given back there is room for one").calls("keep()=1 keep()=2 back()=1 keep()=2")
                .asks("keep()=FULL");
        Edge.of(30, "behind a text laid there is room for 2").written(WORD)
                .calls("keep()=1 keep()=2 lay()=1 keep()=1 keep()=2").asks("keep()=FULL");
        Edge.of(30, "without notices").laid(WORD).calls("keep()=1 put(1)=1 back()=0 count(2)=0");
        Edge.of(30, "six notices").calls("put(54321)=5 put(1)=6 keep()=1 take(0)=5 take(0)=4 back()=0 count(2)=6")
                .asks("notice(0,0)=12 notice(1,0)=35 notice(4,0)=54321 notice(5,0)=1 put(1)=FULL");
        Edge.of(30, "what can be undone stays")
                .calls("put(1)=5 takeFor(0,9)=4 keep()=1 count(4)=2 undo()=1 undo()=0 count(2)=4").asks("undo()=NO");
        Edge.of(30, "what is undone behind it does not change what is kept")
                .calls("put(1)=5 keep()=1 undo()=0 count(2)=4 back()=0 count(2)=5");
        Edge.of(30, "no change that can be undone").calls("keep()=1 keep()=2 count(4)=0").asks("undo()=NO");
    }

    private static void back() {
        Edge.of(31, "nothing kept: NO").calls("put(1)=5 tell(0,1,1)=1")
                .asks("back()=NO back()=NO count(2)=5 count(3)=1 count(4)=1");
        Edge.of(31, "one kept, then NO").calls("keep()=1 put(1)=5 back()=0 count(2)=4 count(5)=0 put(2)=5")
                .asks("back()=NO count(2)=5 count(4)=1");
        Edge.of(31, "two kept, the last first")
                .calls("takeFor(0,0)=4 keep()=1 takeFor(0,1)=0 take(0)=3 keep()=2 takeFor(0,2)=1 take(0)=2")
                .calls("back()=1 word(0,2)=1 count(2)=3 notice(0,0)=35 back()=0 word(0,2)=0 count(2)=4 notice(0,0)=12")
                .asks("back()=NO");
        Edge.of(31, "what words are taken for: the first and the eighth").laid("w1,0,1;".repeat(8))
                .calls("keep()=1 takeFor(0,9)=1 takeFor(7,0)=1 back()=0 word(0,2)=1 word(7,2)=1");
        Edge.of(31, "all notices taken out since").calls("keep()=1 take(0)=3 take(0)=2 take(0)=1 take(0)=0 back()=0")
                .asks("count(2)=4 notice(0,0)=12 notice(1,0)=35 notice(2,0)=241 notice(3,0)=4 notice(4,0)=BAD");
        Edge.of(31, "notices put in since are gone").calls("keep()=1 put(1)=5 put(2)=6 back()=0")
                .asks("count(2)=4 notice(4,0)=BAD")
                .calls("put(3)=5 notice(4,0)=3 put(4)=6").asks("put(5)=FULL");
        Edge.of(31, "nothing is undone then, of before and of since")
                .calls("put(1)=5 keep()=1 take(0)=4 takeFor(0,9)=4 count(4)=3 back()=0 count(4)=0")
                .asks("undo()=NO count(2)=5 word(0,2)=4");
        Edge.of(31, "nothing is undone then, of 8")
                .calls("keep()=1 takeFor(0,0)=4 takeFor(0,1)=0 takeFor(0,2)=1 takeFor(0,3)=2 takeFor(0,4)=3")
                .calls("takeFor(0,5)=4 takeFor(0,6)=5 takeFor(0,7)=6 takeFor(0,8)=7 count(4)=8 back()=0 count(4)=0")
                .calls("word(0,2)=4")
                .asks("undo()=NO")
                .calls("put(1)=5 undo()=0 count(2)=4").asks("undo()=NO");
        Edge.of(31, "with nothing changed since").calls("keep()=1 back()=0 count(2)=4 word(0,2)=4").asks("back()=NO");
        Edge.of(31, "what is told and the text stay").written("abc")
                .calls("keep()=1 tell(0,1,1)=1 back()=0 count(3)=1 count(6)=3").asks("speaks()=30");
        Edge.of(31, "what was told when it was kept does not come back")
                .calls("tell(0,1,1)=1 keep()=1 forget()=1 back()=0 count(3)=0");
        Edge.of(31, "going back is no change that can be undone").calls("keep()=1 put(1)=5 back()=0").asks("undo()=NO");
        Edge.of(31, "kept, back, kept again")
                .calls("keep()=1 put(1)=5 back()=0 put(2)=5 keep()=1 put(3)=6 back()=0 count(2)=5 notice(4,0)=2");
        Edge.of(31, "behind a text laid: NO").written(WORD + "n0;").calls("keep()=1 keep()=2 lay()=1")
                .asks("back()=NO count(2)=1 count(0)=1");
        Edge.of(31, "behind a text not laid: as before").written("x").calls("keep()=1 put(1)=5").asks("lay()=NO")
                .calls("back()=0 count(2)=4");
    }

    private static void count() {
        Edge.of(32, "what is 0 to 6").bounds("count(#)", 0, 6).asks("count(7)=BAD count(-1)=BAD");
        Edge.of(32, "0 words: 1 and 8").laid(WORD).asks("count(0)=1");
        Edge.of(32, "0 words: 8").laid(WORD.repeat(8)).asks("count(0)=8");
        Edge.of(32, "1 readers: none").laid(WORD).asks("count(1)=0");
        Edge.of(32, "1 readers: 6").laid(WORD + "r0,0;".repeat(6)).asks("count(1)=6");
        Edge.of(32, "2 notices: none").laid(WORD).asks("count(2)=0");
        Edge.of(32, "2 notices: 6, refused, one fewer").laid(WORD + "n0;".repeat(6))
                .asks("count(2)=6 put(1)=FULL count(2)=6").calls("take(0)=5 count(2)=5");
        Edge.of(32, "3 told: none, 8, refused").laid(WORD + "r0,0;").asks("count(3)=0")
                .calls("tell(0,1,1)=1 tell(0,1,1)=2 tell(0,1,1)=3 tell(0,1,1)=4 tell(0,1,1)=5 tell(0,1,1)=6")
                .calls("tell(0,1,1)=7 tell(0,1,1)=8")
                .asks("count(3)=8 tell(0,1,1)=FULL tell(0,1,2)=BAD count(3)=8").calls("forget()=8 count(3)=0");
        Edge.of(32, "4 that can be undone: none, 8, still 8").laid(WORD).asks("count(4)=0")
                .calls("put(1)=1 count(4)=1 take(0)=0 count(4)=2 takeFor(0,1)=0 count(4)=3 put(1)=1 put(1)=2 put(1)=3")
                .calls("put(1)=4 put(1)=5 count(4)=8")
                .calls("put(1)=6 count(4)=8").asks("put(1)=FULL count(4)=8").calls("undo()=7 count(4)=7");
        Edge.of(32, "5 kept: none, 2, refused").asks("count(5)=0").calls("keep()=1 count(5)=1 keep()=2 count(5)=2")
                .asks("keep()=FULL count(5)=2")
                .calls("back()=1 count(5)=1 back()=0 count(5)=0").asks("back()=NO count(5)=0");
        Edge.of(32, "6 letters: none, 200, refused").asks("count(6)=0").written("x".repeat(200))
                .asks("count(6)=200 write(120)=FULL write(0)=BAD count(6)=200")
                .calls("wipe()=200 count(6)=0");
    }

    public static void main(String[] args) {
        keep();
        back();
        count();
        Edge.end(30, 32);
    }
}
