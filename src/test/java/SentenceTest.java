import java.nio.file.Files;
import java.nio.file.Path;
import java.util.ArrayList;
import java.util.List;
import java.util.regex.Matcher;
import java.util.regex.Pattern;

/**
 * Every sentence of the document, of "What it is" and "Terms" as of the promises, from the first to the last: each
 * is quoted, must be the next one in the document, and has calls that would answer otherwise if it were broken.
 * What is due was worked out by hand from the sentence.
 */
public final class SentenceTest {
    private static final String FIRST =
            "w3,1,4;w2,5,5;w4,2,7;w1,0,3;w5,6,1;r0,6;r1,9;r2,4;r3,8;r1,2;n01;n24;n130;n3;";
    private static final String WORD = "w1,0,0;";
    private static final String FIVE_WORDS = "w3,1,4;w2,5,5;w4,2,7;w1,0,3;w5,6,1;";
    private static final int MOST_CALLS = 512;

    private static Document document;

    private static Edge say(int promise, String sentence) {
        document.reads(promise, sentence);
        return Edge.of(promise, "\"" + sentence + "\"");
    }

    private static void isFault(int promise, int place, String text) {
        Edge.of(promise, "a fault in " + text).written(text).asks("fault()=" + place + " lay()=NO count(0)=5");
    }

    private static void isNone(int promise, String text) {
        Edge.of(promise, "no fault in " + text).written(text).asks("fault()=NONE");
    }

    private static void whatItIs() {
        say(5, "Wanted: a wanted advertisement: in that paper's back columns people look for each other by what they"
                + " do not say, told in a text with the first fault: words by price, plain meaning and what some take"
                + " them for, readers by kind and want, notices")
                .written("w9,8,7;r2,5;n00;").asks("fault()=NONE").calls("write(120)=17").asks("fault()=16 lay()=NO")
                .calls("wipe()=17").written("w9,8,7;r2,5;n00;").calls("lay()=1")
                .asks("word(0,0)=9 word(0,1)=8 word(0,2)=7 reader(0,0)=2 reader(0,1)=5 notice(0,0)=11");
        say(12, "notices put in and taken out, words taken for something else, undone")
                .calls("put(3)=5 take(0)=4 takeFor(2,0)=7 undo()=2 undo()=1 undo()=0")
                .asks("word(2,2)=7 notice(0,0)=12 notice(3,0)=4 count(2)=4");
        say(13, "what who reads in which notice, who answers, what they cost")
                .asks("reads(0,35)=8 reads(1,35)=8 reads(2,35)=9 reads(3,35)=6 answers(241)=25 price(35)=9");
        String two = "w1,2,3;w2,3,2;r0,2;r1,2;n0;n1;";
        say(16, "the cheapest notice that one answers and nobody else, notices to readers matched, notices near by"
                + " one word, those in which one can read two things").laid(two)
                .asks("cheapest(0,0)=1 cheapest(0,1)=1 cheapest(1,0)=2 cheapest(1,1)=2")
                .asks("matched(-1)=2 matched(0)=0 matched(1)=1 near(-1)=1 near(0)=2 near(1)=1 twofold()=3");
        say(23, "what a word is taken for by who answered, columns filled by worth, how long to run one, chances,"
                + " months by draws, papers kept").laid(two).calls("tell(1,1,1)=1")
                .asks("taken(0)=4 column(1,0)=2 column(1,1)=2 run(0,5,9)=4 odds(0,5,0)=1 odds(0,5,1)=2 month(0,1,0)=0")
                .calls("keep()=1");
    }

    private static void text() {
        say(2, "A TEXT is letters (200 at most)").written("x".repeat(199)).calls("write(119)=200")
                .asks("write(119)=FULL count(6)=200");
        say(4, "ITEMS one behind the other, each a letter, then what it tells, and a ; behind it")
                .written("w1,0,0;r0,0;n0;w2,2,2;n10;r3,9;").asks("fault()=NONE").calls("lay()=2")
                .asks("count(1)=2 count(2)=2 notice(1,0)=21 reader(1,1)=9");
        for (String behind : new String[] {";", " r0,0;", "r0,0", "r0,0,", "R0,0;", "q0,0;", "0,0;", "r0;0;",
                "r0,0:"}) {
            isFault(4, 7, WORD + behind);
        }
        say(6, "wP,A,B a WORD of PRICE P (1 to 9), that means A (0 to 9) plainly, is TAKEN for B (0 to 9); 8 at most,"
                + " 0, 1, ..").laid("w1,0,9;w9,9,0;w3,1,2;w4,2,3;w5,3,4;w6,4,5;w7,5,6;w8,6,7;")
                .asks("word(0,0)=1 word(0,1)=0 word(0,2)=9 word(1,0)=9 word(1,1)=9 word(1,2)=0 word(2,0)=3")
                .asks("word(6,1)=5 word(7,2)=7 word(8,0)=BAD");
        for (String wrong : new String[] {"w0,0,0;", "w:,0,0;", "w1,:,0;", "w1,/,0;", "w1,0,:;", "w1,0,/;", "w1,0;"}) {
            isFault(6, 0, wrong);
        }
        isFault(6, 56, WORD.repeat(9));
        isNone(6, WORD.repeat(8));
        say(7, "rK,W a READER of KIND K (0 PLAIN, 1 KNOWING, 2 FOND, 3 POLICE), who WANTS W (0 to 9); 6 at most, 0,"
                + " 1, ..")
                .laid("w1,3,4;w1,0,2;r0,3;r1,6;r2,8;r3,9;r0,0;r3,5;")
                .asks("reader(0,0)=0 reader(1,0)=1 reader(2,0)=2 reader(3,0)=3 reader(4,0)=0 reader(5,0)=3")
                .asks("reader(0,1)=3 reader(3,1)=9 reader(4,1)=0 reader(5,1)=5 reader(6,0)=BAD answers(12)=15");
        for (String wrong : new String[] {"r4,0;", "r9,0;", "r/,0;", "r0,:;", "r0,/;", "r0;", "r0,0,0;"}) {
            isFault(7, 7, WORD + wrong);
        }
        isFault(7, 37, WORD + "r3,9;".repeat(7));
        isNone(7, WORD + "r3,9;".repeat(6));
        say(8, "nABC.. a NOTICE of one to five WORDS (figures 0 to 7 one behind the other; told ahead each); 6 at"
                + " most, 0, 1, ..").laid(WORD.repeat(8) + "n0;n12;n345;n6701;n77777;n70;")
                .asks("notice(0,0)=1 notice(1,0)=23 notice(2,0)=456 notice(3,0)=7812 notice(4,0)=88888 notice(5,0)=81")
                .asks("notice(0,2)=1 notice(3,2)=4 notice(4,2)=5 notice(6,0)=BAD");
        isFault(8, 7, WORD + "n;");
        isFault(8, 7, WORD + "n000000;");
        isFault(8, 7, WORD + "n0,0;");
        isFault(8, 56, WORD.repeat(8) + "n8;");
        isFault(8, 56, WORD.repeat(8) + "n/;");
        isFault(8, 0, "n0;" + WORD);
        isFault(8, 7, WORD + "n1;" + WORD);
        isFault(8, 7, WORD + "n01;" + WORD);
        isFault(8, 25, WORD + "n0;".repeat(7));
        isNone(8, WORD + "n0;" + WORD + "n1;".repeat(5));
    }

    /** Eight calls that end where they began, over and over: the 512th still answers as it should. */
    private static void calls() {
        String sentence = "An object is used for at most 512 calls after it has been made; what later calls answer is"
                + " free";
        document.reads(1, sentence);
        int[] due = {1, 5, 4, 1, 1, 1, 1, 0};
        BackColumns x = new BackColumns();
        StringBuilder wrong = new StringBuilder();
        for (int call = 0; call < MOST_CALLS; call += due.length) {
            int[] got = {x.keep(), x.put(54321), x.takeFor(0, 9), x.answers(12), x.undo(), x.tell(0, 12, 1), x.forget(),
                x.back()};
            for (int n = 0; n < due.length; n++) {
                wrong.append(got[n] == due[n] ? "" : " call " + (call + n + 1) + " answered " + got[n]);
            }
        }
        Edge.holds(1, sentence + ":" + wrong, wrong.length() == 0);
    }

    private static void laid() {
        say(4, "Numbers of w, r have one figure.").written("w1,0,0;r3,9;").asks("fault()=NONE");
        for (String wrong : new String[] {"w10,0,0;", "w01,0,0;", "w1,00,0;", "w1,10,0;", "w1,0,00;", "w1,0,10;",
            "w,0,0;", "w1,,0;", "w1,0,;", "w+1,0,0;", "w1,-0,0;", "w 1,0,0;", "r00,0;", "r0,00;", "r0,10;", "r,0;",
            "r0,;", "r-0,0;", "r0,+1;"}) {
            isFault(4, 0, wrong);
        }
        say(4, "FAULT: the place of the first letter of the first ITEM that is not so.")
                .written("w1,0,0;r0,0;r9,0;r8,0;x").asks("fault()=12");
        isFault(4, 0, "x");
        isFault(4, 14, WORD + WORD + "n02;n03;");
        isFault(4, 12, WORD + "r0,0;n0");
        isFault(4, 15, WORD + "r0,0;n0;w");
        isFault(4, 128, WORD.repeat(8) + "r0,0;".repeat(6) + "n00000;".repeat(6) + "x".repeat(72));
        say(5, "LAID is a TEXT without FAULT, of a WORD at least (NO else; at first " + FIRST + ").")
                .asks("lay()=NO count(0)=5 count(1)=5 count(2)=4")
                .asks("word(0,0)=3 word(0,1)=1 word(0,2)=4 word(1,0)=2 word(1,1)=5 word(1,2)=5 word(2,0)=4 word(2,1)=2")
                .asks("word(2,2)=7 word(3,0)=1 word(3,1)=0 word(3,2)=3 word(4,0)=5 word(4,1)=6 word(4,2)=1")
                .asks("reader(0,0)=0 reader(0,1)=6 reader(1,0)=1 reader(1,1)=9 reader(2,0)=2 reader(2,1)=4")
                .asks("reader(3,0)=3 reader(3,1)=8 reader(4,0)=1 reader(4,1)=2")
                .asks("notice(0,0)=12 notice(1,0)=35 notice(2,0)=241 notice(3,0)=4")
                .written("r0,0;").asks("fault()=NONE lay()=NO").written("x").asks("fault()=5 lay()=NO")
                .calls("wipe()=6").written(WORD).calls("lay()=1");
    }

    private static void reading() {
        String four = "w1,7,2;w1,6,9;r0,0;r1,0;r2,0;r3,0;";
        say(13, "A READER reads in a NOTICE: a PLAIN one what its WORDS mean plainly, added, modulo 10").laid(four)
                .asks("reads(0,1)=7 reads(0,2)=6 reads(0,12)=3 reads(0,21)=3 reads(0,122)=9 reads(0,11122)=3");
        say(13, "a KNOWING one what they are TAKEN for, likewise").laid(four)
                .asks("reads(1,1)=2 reads(1,2)=9 reads(1,12)=1 reads(1,21)=1 reads(1,122)=0 reads(1,11122)=4");
        say(13, "a FOND one what they are TAKEN for, times their place (1 for the first, 2, ..), added, modulo 10")
                .laid(four)
                .asks("reads(2,1)=2 reads(2,2)=9 reads(2,12)=0 reads(2,21)=3 reads(2,122)=7 reads(2,11122)=3");
        say(13, "POLICE what a PLAIN one reads and what a KNOWING one does, added, modulo 10.").laid(four)
                .asks("reads(3,1)=9 reads(3,2)=5 reads(3,12)=4 reads(3,21)=4 reads(3,122)=9 reads(3,11122)=7");
        say(14, "He ANSWERS if that is what he WANTS.").laid("w1,7,2;w1,6,9;r0,3;r1,1;r2,0;r3,4;r0,1;r3,5;n01;n10;")
                .asks("answers(12)=15 answers(21)=11 notice(0,3)=15 notice(1,3)=11 answers(1)=0");
        say(15, "PRICE of a NOTICE is that of its WORDS, added, and 1 more for each WORD that is in it a second time,"
                + " a third, ...")
                .asks("price(4)=1 price(12)=5 price(54321)=15 price(11)=7 price(111)=11 price(1212)=12 price(12121)=16")
                .asks("price(44444)=9 notice(1,1)=9 notice(2,1)=6");
    }

    private static void changes() {
        say(9, "A NOTICE is told by a CODE: its WORDS' numbers and 1 as figures (so 1 to 8), the first ahead: 1 to"
                + " 88888.")
                .laid(WORD.repeat(8) + "n0;n7;n07;n70;")
                .asks("notice(0,0)=1 notice(1,0)=8 notice(2,0)=18 notice(3,0)=81")
                .asks("put(0)=BAD put(9)=BAD put(10)=BAD put(108)=BAD put(19)=BAD put(88889)=BAD put(111111)=BAD")
                .asks("put(-1)=BAD").calls("put(88888)=5 put(1)=6").asks("notice(4,2)=5 notice(5,2)=1");
        say(9, "One can be PUT IN (behind the others)").calls("put(55)=5")
                .asks("notice(4,0)=55 notice(3,0)=4 notice(0,0)=12");
        say(10, "TAKEN OUT (those behind it come one down)").calls("take(1)=3")
                .asks("notice(0,0)=12 notice(1,0)=241 notice(2,0)=4 notice(3,0)=BAD");
        say(11, "a WORD be TAKEN for something else.").calls("takeFor(3,9)=3")
                .asks("word(3,2)=9 word(3,1)=0 word(3,0)=1 reads(1,4)=9 reads(0,4)=0 answers(4)=2");
        say(12, "UNDONE is the latest of these (the last 8 can be).")
                .calls("put(1)=5 take(0)=4 takeFor(0,0)=4 put(2)=5")
                .calls("takeFor(0,1)=0 takeFor(1,2)=5 take(4)=4 put(3)=5 takeFor(0,9)=1 count(4)=8")
                .calls("undo()=7 word(0,2)=1 undo()=6 count(2)=4 undo()=5 notice(4,0)=2 undo()=4 word(1,2)=5")
                .calls("undo()=3 word(0,2)=0 undo()=2 count(2)=4 undo()=1 word(0,2)=4 undo()=0 notice(0,0)=12")
                .asks("count(2)=5 notice(4,0)=1 undo()=NO");
    }

    private static void cheapest() {
        say(16, "CHEAPEST for a READER: of all NOTICES of 1 to 4 WORDS that he ANSWERS and no other READER does that"
                + " of least PRICE").laid("w2,1,1;w1,2,1;r0,2;r1,2;")
                .asks("cheapest(0,0)=2 cheapest(0,1)=1 cheapest(1,0)=12 cheapest(1,1)=3");
        Edge.of(16, "4 words").laid("w1,1,0;r0,4;r0,5;")
                .asks("cheapest(0,0)=1111 cheapest(0,1)=7 cheapest(1,0)=NONE cheapest(1,1)=NONE");
        say(16, "of several that of fewest WORDS").laid("w1,1,0;w3,2,0;r0,2;").asks("cheapest(0,0)=2 cheapest(0,1)=3");
        say(16, "of several the least CODE: its CODE; its PRICE; none.").laid("w1,4,0;w1,1,0;w1,2,0;r0,6;r1,1;")
                .asks("cheapest(0,0)=13 cheapest(0,1)=2 cheapest(1,0)=NONE cheapest(1,1)=NONE");
        say(17, "DOUBLE: NOTICES (bits) in which a PLAIN and a KNOWING one would read unlike things.")
                .asks("twofold()=13").calls("takeFor(3,0)=3").asks("twofold()=5");
    }

    private static void matched() {
        String both = "w1,1,1;w1,1,0;r0,1;r1,1;";
        say(18, "MATCHED: as many NOTICES as can be, each to one READER who ANSWERS it, none to two: how many")
                .laid(both + "n0;n1;").asks("matched(-1)=2 matched(0)=1 matched(1)=0");
        Edge.of(18, "none to two").laid(both + "n1;n1;").asks("matched(-1)=1 matched(0)=0 matched(1)=NONE");
        say(18, "of all ways to do so with as many the first (NOTICE 0 to the lowest READER, a NOTICE to nobody"
                + " behind all, then 1, ..): whose a NOTICE is; none.").laid(both + "n0;n0;n0;")
                .asks("matched(-1)=2 matched(0)=0 matched(1)=1 matched(2)=NONE");
        Edge.of(18, "then 1").laid(both + "n1;n0;n0;").asks("matched(0)=0 matched(1)=1 matched(2)=NONE");
    }

    private static void nearAndColumn() {
        say(19, "NEAR are two NOTICES of as many WORDS that are unlike in just one place: with which a NOTICE is"
                + " (bits); how many twos there are.").laid(WORD + WORD + "n00;n01;n11;n0;n1;n00;")
                .asks("near(0)=2 near(1)=37 near(2)=2 near(3)=16 near(4)=8 near(5)=2 near(-1)=4");
        say(20, "COLUMN of l (0 to 30) WORDS: the set of NOTICES of most PRICE together, with no more WORDS together,"
                + " of several the lowest (bits); as much.")
                .asks("column(0,0)=0 column(0,1)=0 column(1,0)=8 column(1,1)=1 column(2,0)=2 column(2,1)=9")
                .asks("column(3,0)=10 column(3,1)=10 column(4,0)=3 column(4,1)=14 column(6,0)=14 column(6,1)=16")
                .asks("column(7,0)=7 column(7,1)=20 column(8,0)=15 column(8,1)=21 column(30,0)=15 column(30,1)=21")
                .asks("column(31,0)=BAD column(-1,0)=BAD");
        Edge.of(20, "of several the lowest").laid("w2,0,0;w2,0,0;n0;n1;n0;")
                .asks("column(1,0)=1 column(2,0)=3 column(2,1)=4");
    }

    private static void told() {
        say(21, "TOLD (8 at most) is that a READER ANSWERED, or did not (1, 0), a NOTICE by its CODE.")
                .calls("tell(0,12,1)=1 tell(0,12,0)=2 tell(1,1,1)=3 tell(2,55555,0)=4 tell(3,5,1)=5 tell(4,4,0)=6")
                .calls("tell(4,4,1)=7 tell(4,4,1)=8")
                .asks("tell(4,4,1)=FULL tell(4,4,2)=BAD tell(4,0,1)=BAD count(3)=8");
        say(23, "TAKEN: what a WORD can be TAKEN for (bits of 0 to 9), all else being as it is, so that all that is"
                + " TOLD is so.").laid("w1,3,2;w1,1,6;r1,8;r2,4;").asks("taken(0)=1023").calls("tell(0,12,1)=1")
                .asks("taken(0)=4 taken(1)=64").calls("tell(1,21,0)=2").asks("taken(0)=4")
                .calls("forget()=2 tell(0,11,1)=1").asks("taken(0)=528 taken(1)=0");
        say(24, "SPEAKS: READERS (bits) who have ANSWERED, or not, as TOLD would have it.")
                .calls("tell(0,12,1)=1 tell(3,12,1)=2 tell(4,241,0)=3").asks("speaks()=7");
    }

    private static void chances() {
        say(25, "ODDS: each READER reads the paper by the chance of x (0 to 10) of ten: how likely a NOTICE is"
                + " ANSWERED by anybody, in lowest terms.")
                .asks("odds(0,2,0)=61 odds(0,2,1)=125 odds(1,2,0)=0 odds(1,2,1)=1")
                .asks("odds(0,0,0)=0 odds(0,0,1)=1 odds(0,10,0)=1 odds(0,10,1)=1 odds(0,11,0)=BAD odds(0,-1,0)=BAD");
        say(26, "RUN for y (1 to 9): the fewest days (1 to 15) by which one READER who ANSWERS it, reading the paper"
                + " on each by the chance of x of ten, has read it by y of ten or more; none (nobody ANSWERS it, too).")
                .asks("run(0,1,1)=1 run(0,1,2)=3 run(0,1,7)=12 run(0,1,8)=NONE run(0,2,9)=11 run(0,5,5)=1 run(0,5,6)=2")
                .asks("run(0,0,1)=NONE run(0,10,9)=1 run(1,10,1)=NONE run(0,5,0)=BAD run(0,5,10)=BAD");
        say(27, "WANTED: what nobody WANTS (bits of 0 to 9).").asks("wanted()=171");
        say(28, "MOODS: the WORD that is in most NOTICES, of several the lowest (once in each counts); in how many.")
                .asks("moods(0)=0 moods(1)=2").calls("put(55555)=5").asks("moods(0)=0 moods(1)=2").calls("put(444)=6")
                .asks("moods(0)=3 moods(1)=3");
    }

    /**
     * By z 0 the draws of the days 0 and 1 are 1 (words 0, 0) and 41487 (words 1, 2, 3, 2 of five); by z 9999 that of
     * day 0 is 51303 (words 0, 1, 1, 0 of five).
     */
    private static void month() {
        say(29, "A MONTH by z (0 to 9999) of n (1 to 40) days from now on: on each a NOTICE of the CODE of as many"
                + " WORDS as (DRAW modulo 4) and 1, the k-th WORD (0 first) being (DRAW by 4 to the k and 1, cut)"
                + " modulo as many as there are, is read by all, DRAW being ((x times x) modulo 65521), x 7919 z,"
                + " 6151 (the day, 0 first) and 1 together: how often any ANSWERS; on how many days just one does.")
                .asks("month(0,1,0)=0 month(0,1,1)=0 month(0,2,0)=1 month(0,2,1)=1 month(9999,1,0)=0")
                .asks("month(10000,1,0)=BAD month(-1,1,0)=BAD month(0,0,0)=BAD month(0,41,0)=BAD");
        Edge.of(29, "the words of a draw, by what each kind reads").laid(FIVE_WORDS + "r0,9;r1,2;r2,6;r3,1;")
                .asks("month(0,1,0)=0 month(0,2,0)=4 month(0,2,1)=0");
        Edge.of(29, "the words of the first draw").laid(FIVE_WORDS + "r0,2;r1,8;r2,2;r3,0;").asks("month(0,1,0)=4");
        Edge.of(29, "x beyond an int's square").laid(FIVE_WORDS + "r0,2;r1,8;r2,5;r3,0;")
                .asks("month(9999,1,0)=4 month(9999,1,1)=0");
        Edge.of(29, "just one").laid(FIVE_WORDS + "r2,5;r2,4;").asks("month(9999,1,0)=1 month(9999,1,1)=1");
    }

    private static void keptAndRefused() {
        say(30, "KEPT are NOTICES, what WORDS are TAKEN for: 2 at most.").written("ab")
                .calls("keep()=1 put(5)=5 takeFor(1,0)=5 keep()=2").asks("keep()=FULL")
                .calls("take(0)=4 takeFor(1,9)=0 tell(0,1,1)=1 write(99)=3 back()=1").asks("count(2)=5 word(1,2)=0")
                .asks("notice(0,0)=12 count(3)=1 count(6)=3").calls("back()=0").asks("count(2)=4 word(1,2)=5");
        document.reads(6, "BAD: a number is none that is told (WORDS, READERS, NOTICES: such as there are; CODES of"
                + " WORDS there are).");
        String[] bad = {"2 write(31)", "2 write(127)", "6 word(5,0)", "6 word(0,3)", "7 reader(5,0)", "7 reader(0,2)",
            "8 notice(4,0)", "8 notice(0,4)", "9 put(6)", "9 put(0)", "10 take(4)", "10 take(-1)", "11 takeFor(5,0)",
            "11 takeFor(0,10)", "13 reads(5,1)", "13 reads(0,6)", "14 answers(6)", "14 answers(10)", "15 price(6)",
            "15 price(111111)", "16 cheapest(5,0)", "16 cheapest(0,2)", "18 matched(4)", "18 matched(-2)", "19 near(4)",
            "19 near(-2)", "20 column(31,0)", "20 column(0,2)", "21 tell(5,1,0)", "21 tell(0,6,0)", "21 tell(0,1,2)",
            "23 taken(5)", "23 taken(-1)", "25 odds(4,0,0)", "25 odds(0,11,0)", "25 odds(0,0,2)", "26 run(4,1,1)",
            "26 run(0,11,1)", "26 run(0,1,0)", "28 moods(2)", "28 moods(-1)", "29 month(10000,1,0)", "29 month(0,0,0)",
            "29 month(0,1,2)", "32 count(7)", "32 count(-1)"};
        for (String call : bad) {
            int behind = call.indexOf(' ');
            Edge.of(Integer.parseInt(call.substring(0, behind)), "a number that is none").calls("put(1)=5 undo()=0")
                    .asks(call.substring(behind + 1) + "=BAD");
        }
        say(12, "NO: not as things stand.").asks("undo()=NO back()=NO lay()=NO")
                .calls("put(1)=5 keep()=1 undo()=0 back()=0")
                .asks("undo()=NO back()=NO");
        say(18, "NONE: there is none.").laid(WORD + "r0,1;n0;")
                .asks("fault()=NONE cheapest(0,0)=NONE cheapest(0,1)=NONE matched(0)=NONE run(0,5,5)=NONE");
        say(30, "FULL.").written("x".repeat(200)).calls("put(1)=5 put(2)=6 keep()=1 keep()=2")
                .calls("tell(0,1,0)=1 tell(0,1,0)=2 tell(0,1,0)=3 tell(0,1,0)=4 tell(0,1,0)=5 tell(0,1,0)=6")
                .calls("tell(0,1,0)=7 tell(0,1,0)=8").asks("write(32)=FULL put(1)=FULL tell(0,1,1)=FULL keep()=FULL");
        say(9, "Of several the first; nothing changes then.").written("x".repeat(200)).calls("put(1)=5 put(2)=6")
                .calls("tell(0,1,0)=1 tell(0,1,0)=2 tell(0,1,0)=3 tell(0,1,0)=4 tell(0,1,0)=5 tell(0,1,0)=6")
                .calls("tell(0,1,0)=7 tell(0,1,0)=8")
                .asks("write(31)=BAD put(0)=BAD put(6)=BAD tell(5,1,0)=BAD tell(0,6,0)=BAD")
                .asks("tell(0,1,2)=BAD run(1,11,5)=BAD run(1,5,0)=BAD cheapest(0,2)=BAD");
    }

    private static void group(String source, int promise, String title, String... calls) {
        StringBuilder sentence = new StringBuilder("Ahead of the calls ");
        for (String call : calls) {
            sentence.append(call == calls[0] ? "`" : ", `").append(call).append('`');
        }
        sentence.append(" the interface says: ---- ").append(title).append('.');
        document.reads(promise, sentence.toString());
        int from = source.indexOf("// ---- " + title + "\n");
        int to = source.indexOf("// ----", from + 1);
        List<String> names = new ArrayList<>();
        if (from >= 0 && to >= 0) {
            Matcher call = Pattern.compile("public int (\\w+)\\(").matcher(source.substring(from, to));
            while (call.find()) {
                names.add(call.group(1));
            }
        }
        Edge.holds(promise, sentence + " The source has " + names, names.equals(List.of(calls)));
    }

    private static void groups() throws Exception {
        String place = System.getProperty("main.source", "src/main/java/BackColumns.java");
        String source = Files.readString(Path.of(place));
        group(source, 2, "papers", "write", "wipe", "fault", "lay", "word", "reader", "notice");
        group(source, 9, "changes", "put", "take", "takeFor", "undo");
        group(source, 13, "reading", "reads", "answers", "price");
        group(source, 16, "what would be", "cheapest", "twofold", "matched", "near", "column");
        group(source, 21, "what was told", "tell", "forget", "taken", "speaks", "odds", "run", "wanted", "moods",
                "month");
        group(source, 30, "kept", "keep", "back", "count");
    }

    private static void promisesOfPapers() {
        say(1, "`BackColumns()`: As told.").asks("count(0)=5 count(1)=5 count(2)=4 count(3)=0 count(4)=0 count(5)=0")
                .asks("count(6)=0 fault()=NONE lay()=NO undo()=NO back()=NO").calls("forget()=0 wipe()=0")
                .asks("speaks()=31 taken(0)=1023 notice(0,3)=7 notice(2,3)=25");
        say(2, "`int write(int letter)`: A letter (32 to 126, as in ASCII) comes behind THE TEXT: how long it is."
                + " BAD; FULL.")
                .asks("write(31)=BAD write(127)=BAD write(-87)=BAD write(375)=BAD")
                .calls("write(119)=1 write(57)=2 write(44)=3 write(49)=4 write(44)=5 write(50)=6").asks("fault()=0")
                .calls("write(59)=7").asks("fault()=NONE").calls("lay()=1 write(32)=8 write(126)=9")
                .asks("fault()=7 word(0,0)=9 word(0,1)=1 word(0,2)=2").written("x".repeat(191))
                .asks("write(120)=FULL write(127)=BAD count(6)=200");
        say(3, "`int wipe()`: THE TEXT is empty: how long it was.").written("abc").calls("wipe()=3 count(6)=0 wipe()=0")
                .asks("fault()=NONE lay()=NO");
        say(4, "`int fault()`: FAULT. NONE.").asks("fault()=NONE").written(WORD).asks("fault()=NONE").written("n1;")
                .asks("fault()=7 fault()=7");
        say(5, "`int lay()`: LAID: how many WORDS; nothing TOLD, UNDONE, KEPT. NO.").asks("lay()=NO")
                .calls("tell(0,1,1)=1 put(1)=5 keep()=1").written(WORD.repeat(3) + "n2;").calls("lay()=3")
                .asks("count(3)=0 count(4)=0 count(5)=0 undo()=NO back()=NO count(2)=1 count(1)=0").calls("forget()=0");
        say(6, "`int word(int w, int what)`: Of a WORD: PRICE (what = 0), plainly (1), TAKEN for (2). BAD.")
                .asks("word(2,0)=4 word(2,1)=2 word(2,2)=7 word(2,3)=BAD word(2,-1)=BAD word(5,0)=BAD word(-1,0)=BAD");
        say(7, "`int reader(int i, int what)`: Of a READER: KIND (what = 0), WANT (1). BAD.")
                .asks("reader(3,0)=3 reader(3,1)=8 reader(3,2)=BAD reader(3,-1)=BAD reader(5,0)=BAD reader(-1,0)=BAD");
        say(8, "`int notice(int k, int what)`: Of a NOTICE: CODE (what = 0), PRICE (1), how many WORDS (2), who"
                + " ANSWERS, as bits (3). BAD.")
                .asks("notice(2,0)=241 notice(2,1)=6 notice(2,2)=3 notice(2,3)=25 notice(2,4)=BAD")
                .asks("notice(2,-1)=BAD notice(4,0)=BAD notice(-1,0)=BAD");
    }

    private static void promisesOfChangesAndReading() {
        say(9, "`int put(int code)`: A NOTICE is PUT IN: how many there are. BAD (no CODE); FULL: there are 6.")
                .asks("put(6)=BAD put(0)=BAD put(101)=BAD").calls("put(5)=5 put(4)=6").asks("put(3)=FULL put(6)=BAD")
                .asks("notice(4,0)=5 notice(5,0)=4");
        say(10, "`int take(int k)`: A NOTICE is TAKEN OUT: how many are left. BAD.").asks("take(4)=BAD take(-1)=BAD")
                .calls("take(3)=3 take(0)=2").asks("take(2)=BAD notice(0,0)=35 notice(1,0)=241");
        say(11, "`int takeFor(int w, int b)`: A WORD is TAKEN for b (0 to 9): for what it was. BAD.")
                .asks("takeFor(0,10)=BAD takeFor(0,-1)=BAD takeFor(5,0)=BAD takeFor(-1,0)=BAD")
                .calls("takeFor(0,9)=4 takeFor(0,0)=9").asks("word(0,2)=0");
        say(12, "`int undo()`: UNDONE: how many more can be. NO.").asks("undo()=NO")
                .calls("put(1)=5 takeFor(0,1)=4 take(0)=4 undo()=2 undo()=1 undo()=0").asks("undo()=NO count(2)=4");
        say(13, "`int reads(int i, int code)`: What a READER reads in a NOTICE of a CODE. BAD.")
                .asks("reads(0,2343)=9 reads(1,2343)=2 reads(2,2343)=6 reads(3,2343)=1 reads(4,2343)=2")
                .asks("reads(5,1)=BAD reads(-1,1)=BAD reads(0,6)=BAD reads(0,0)=BAD");
        say(14, "`int answers(int code)`: Who ANSWERS a NOTICE of a CODE, as bits. BAD.")
                .asks("answers(12)=7 answers(2343)=16 answers(35)=0 answers(6)=BAD answers(0)=BAD");
        say(15, "`int price(int code)`: PRICE of a CODE. BAD.")
                .asks("price(2343)=12 price(5)=5 price(6)=BAD price(0)=BAD price(111111)=BAD");
    }

    private static void promisesOfWhatWouldBe() {
        say(16, "`int cheapest(int i, int what)`: CHEAPEST: the CODE (what = 0), its PRICE (1). NONE; BAD.")
                .laid(WORD + "r0,0;r0,1;")
                .asks("cheapest(0,0)=1 cheapest(0,1)=1 cheapest(1,0)=NONE cheapest(1,1)=NONE cheapest(2,0)=BAD")
                .asks("cheapest(0,2)=BAD cheapest(1,2)=BAD cheapest(-1,0)=BAD");
        say(17, "`int twofold()`: DOUBLE, as bits.").laid("w1,4,5;w1,6,6;n0;n1;n01;n11;n10;").asks("twofold()=21");
        say(18, "`int matched(int k)`: MATCHED: how many (k = -1), whose a NOTICE is. NONE; BAD.")
                .asks("matched(-1)=2 matched(0)=0 matched(1)=NONE matched(2)=3 matched(3)=NONE matched(4)=BAD")
                .asks("matched(-2)=BAD");
        say(19, "`int near(int k)`: NEAR: with which, as bits; how many twos (k = -1). BAD.").calls("put(14)=5")
                .asks("near(0)=16 near(4)=1 near(1)=0 near(2)=0 near(3)=0 near(-1)=1 near(5)=BAD near(-2)=BAD");
        say(20, "`int column(int l, int what)`: COLUMN: the set (what = 0), as much (1). BAD.").calls("put(11)=5")
                .asks("column(4,0)=18 column(4,1)=16 column(2,0)=2 column(2,1)=9 column(31,0)=BAD column(-1,1)=BAD")
                .asks("column(4,2)=BAD column(4,-1)=BAD");
    }

    private static void promisesOfWhatWasTold() {
        say(21, "`int tell(int i, int code, int answered)`: TOLD: how many. BAD; FULL.")
                .asks("tell(5,1,0)=BAD tell(0,6,0)=BAD tell(0,1,2)=BAD tell(0,1,-1)=BAD")
                .calls("tell(4,55555,1)=1 tell(0,1,0)=2 tell(0,1,0)=3 tell(0,1,0)=4 tell(0,1,0)=5 tell(0,1,0)=6")
                .calls("tell(0,1,0)=7 tell(0,1,0)=8").asks("tell(0,1,0)=FULL tell(0,1,2)=BAD");
        say(22, "`int forget()`: Nothing is TOLD: how many were.").calls("tell(0,1,1)=1 tell(1,1,1)=2")
                .asks("speaks()=28")
                .calls("forget()=2").asks("speaks()=31 count(3)=0").calls("forget()=0");
        say(23, "`int taken(int w)`: TAKEN, as bits. BAD.").calls("tell(1,4,1)=1")
                .asks("taken(3)=512 taken(0)=0 taken(5)=BAD taken(-1)=BAD word(3,2)=3");
        say(24, "`int speaks()`: SPEAKS, as bits.").calls("tell(1,4,1)=1").asks("speaks()=29").calls("takeFor(3,9)=3")
                .asks("speaks()=31");
        say(25, "`int odds(int k, int x, int part)`: ODDS: above (part = 0), below (1). BAD.")
                .asks("odds(2,5,0)=7 odds(2,5,1)=8 odds(2,5,2)=BAD odds(2,5,-1)=BAD odds(4,5,0)=BAD odds(2,11,0)=BAD");
        say(26, "`int run(int k, int x, int y)`: RUN. NONE; BAD.")
                .asks("run(2,3,5)=2 run(3,3,5)=NONE run(2,0,5)=NONE run(4,3,5)=BAD run(2,11,5)=BAD run(2,3,10)=BAD");
        say(27, "`int wanted()`: WANTED, as bits.").laid(WORD + "r0,0;r1,9;r2,9;").asks("wanted()=510");
        say(28, "`int moods(int what)`: MOODS: the WORD (what = 0), in how many (1). BAD.").calls("take(0)=3")
                .asks("moods(0)=3 moods(1)=2 moods(2)=BAD moods(-1)=BAD");
        say(29, "`int month(int z, int n, int what)`: A MONTH: how often (what = 0), on how many days (1). BAD.")
                .asks("month(0,2,0)=1 month(0,2,1)=1 month(0,2,2)=BAD month(0,2,-1)=BAD month(0,41,0)=BAD")
                .asks("month(10000,2,0)=BAD");
        Edge.of(29, "on how many days just one does, not how often").laid(FIVE_WORDS + "r1,8;r0,9;r1,2;")
                .asks("month(0,2,0)=3 month(0,2,1)=1");
    }

    private static void promisesOfKept() {
        say(30, "`int keep()`: KEPT: how many. FULL.").calls("keep()=1 keep()=2").asks("keep()=FULL count(5)=2");
        say(31, "`int back()`: As KEPT last: how many are left; nothing is UNDONE then. NO.").asks("back()=NO")
                .calls("keep()=1 put(1)=5 keep()=2 put(2)=6 takeFor(0,0)=4 back()=1 count(2)=5 word(0,2)=4")
                .asks("undo()=NO")
                .calls("put(3)=6 back()=0 count(2)=4").asks("undo()=NO back()=NO");
        say(32, "`int count(int what)`: How many: 0 WORDS, 1 READERS, 2 NOTICES, 3 TOLD, 4 that can be UNDONE, 5"
                + " KEPT, 6 letters of THE TEXT. BAD.").laid(WORD.repeat(3) + "r0,0;r0,0;n0;").written("abcdefg")
                .calls("put(1)=2 put(1)=3 put(1)=4 take(0)=3 tell(0,1,1)=1 tell(0,1,1)=2 tell(0,1,1)=3 tell(0,1,1)=4")
                .calls("tell(0,1,1)=5 takeFor(0,1)=0 put(1)=4 keep()=1")
                .asks("count(0)=3 count(1)=2 count(2)=4 count(3)=5 count(4)=6 count(5)=1 count(6)=7 count(7)=BAD")
                .asks("count(-1)=BAD");
    }

    public static void main(String[] args) throws Exception {
        document = new Document();
        whatItIs();
        text();
        calls();
        laid();
        reading();
        changes();
        cheapest();
        matched();
        nearAndColumn();
        told();
        chances();
        month();
        keptAndRefused();
        groups();
        promisesOfPapers();
        promisesOfChangesAndReading();
        promisesOfWhatWouldBe();
        promisesOfWhatWasTold();
        promisesOfKept();
        document.ends();
        Edge.end(1, 32);
    }
}
