/** The boundary cases of the text (section 1), of the refusals' order and of promises 1 to 8, sentence by sentence. */
public final class DaleBoundsTest {
    private static final Check check = new Check("DaleBoundsTest");

    private static final String ONE = "b2 1;f0 1 0 0;";
    // Eight farms but the estuary in a row, 77 letters.
    private static final String ROW = "b2 9;f0 1 0 0;f1 1 0 0;f2 1 0 0;f3 1 0 0;f4 1 0 0;f5 1 0 0;f6 1 0 0;f7 1 0 0;";

    public static void main(String[] args) {
        lengthOfTheText();
        wordsAndFlow();
        farms();
        numbers();
        blanks();
        placesOfFaults();
        leastOfFaults();
        noDale();
        aNewObject();
        feed();
        daleAndItsText();
        daleBeginsAnew();
        daleWithAFault();
        fault();
        told();
        loudest();
        bottom();
        even();
        longest();
        farm();
        talk();
        logged();
        check.end();
    }

    private static void holds(String sentence, String dale, String calls) {
        Script.run(check, sentence, dale, calls);
    }

    private static void text(String sentence, String text, int dale, int fault) {
        holds(sentence + " '" + text + "'", null, "<" + text.replace(' ', '_') + "> told(2)=" + text.length()
            + " dale()=" + dale + " fault()=" + fault + " told(2)=0 told(1)=" + Math.max(dale, 0));
    }

    // ---- section 1

    private static void lengthOfTheText() {
        String is = "section 1: 240 letters at most";
        text(is, " ".repeat(163) + ROW, 9, -1);
        text(is, " ".repeat(236) + "b2 1", -11, 240);
        text(is, " ".repeat(239) + "b", -11, 240);
        text(is, " ".repeat(239) + "x", -11, 239);
        holds(is + ", the 241st is not read", null,
            "<" + "_".repeat(235) + "b2_1;> feed(120)=FULL told(2)=240 dale()=1 fault()=NONE");
        holds(is + ", the 241st ends nothing", null,
            "<" + "_".repeat(236) + "b2_1> feed(59)=FULL dale()=-11 fault()=240");
    }

    private static void wordsAndFlow() {
        String w = "section 1: W 2 .. 9";
        text(w, "b0 1;", -12, 1);
        text(w, "b1 1;", -12, 1);
        text(w, "b10 1;", -12, 1);
        text(w, "b999 1;", -12, 1);
        holds(w + ", 2", "b2 1;f0 1 0 0;", "told(0)=2 say(1,1)=1 say(1,2)=UNKNOWN");
        holds(w + ", 9", "b9 1;f0 1 0 0;", "told(0)=9 say(1,8)=1 say(1,9)=UNKNOWN");
        String f = "section 1: FLOW F at first, 0 .. 9";
        text(f, "b2 10;", -12, 3);
        text(f, "b2 999;", -12, 3);
        holds(f + ", 0", "b2 0;", "told(4)=0");
        holds(f + ", 9", "b2 9;", "told(4)=9");
        text("section 1: 'b' first", "f0 1 0 0;b2 1;", -11, 0);
        text("section 1: 'b' first", " ;b2 1;", -11, 1);
        text("section 1: 'b' once", "b2 1;b2 1;", -13, 5);
        text("section 1: 'b' once", "b2 1;f0 1 0 0; b2 1;", -13, 15);
        text("section 1: 'b' once", ROW + "b2 1;", -13, 77);
        holds("section 1: FARM 0 is at THE ESTUARY", "b2 1;", "told(1)=1 farm(0,0)=NONE say(0,0)=NOT");
    }

    private static void farms() {
        String eight = "section 1: FARMS 1 to 8";
        text(eight, "b2 1;", 1, -1);
        text(eight, ONE, 2, -1);
        text(eight, ROW, 9, -1);
        text(eight + ", a ninth", ROW + "f0 1 0 0;", -13, 77);
        text(eight + ", a ninth", ROW + "  f", -13, 79);
        text(eight + ", a ninth", ROW + "f9999x", -13, 77);
        String t = "section 1: FARM T, 0 or told ahead";
        text(t, "b2 1;f1 1 0 0;", -12, 6);
        text(t, "b2 1;f0 1 0 0;f1 1 0 0;", 3, -1);
        text(t, "b2 1;f0 1 0 0;f2 1 0 0;", -12, 15);
        text(t, "b2 1;f0 1 0 0;f3 1 0 0;", -12, 15);
        text(t, ROW.substring(0, 68) + "f8 1 0 0;", -12, 69);
        String d = "section 1: D, 1 .. 9";
        text(d, "b2 1;f0 0 0 0;", -12, 8);
        text(d, "b2 1;f0 10 0 0;", -12, 8);
        holds(d, "b2 1;f0 1 0 0;f0 9 0 0;", "farm(1,1)=1 farm(2,1)=9");
        String g = "section 1: SORT G, 0 .. 4";
        text(g, "b2 1;f0 1 5 0;", -12, 10);
        holds(g, "b2 1;f0 1 0 0;f0 1 4 0;", "farm(1,2)=0 farm(2,2)=4");
        String k = "section 1: K, a WORD";
        text(k, "b2 1;f0 1 0 2;", -12, 12);
        text(k, "b9 1;f0 1 0 9;", -12, 12);
        text(k, "b8 1;f0 1 0 8;", -12, 12);
        holds(k, "b2 1;f0 1 0 0;f0 1 0 1;", "farm(1,3)=0 farm(2,3)=1");
        holds(k, "b9 1;f0 1 0 8;", "farm(1,3)=8");
    }

    private static void numbers() {
        String figures = "section 1: NUMBERS have one to three figures";
        holds(figures, "b02 004;f000 1 0 001;", "told(0)=2 told(4)=4 farm(1,0)=0 farm(1,3)=1");
        text(figures + ", four", "b0002 1;", -12, 1);
        text(figures + ", four", "b2 0001;", -12, 3);
        text(figures + ", four", "b2 1;f0000 1 0 0;", -12, 6);
        text(figures + ", four", "b2 1;f0 0001 0 0;", -12, 8);
        text(figures + ", four", "b2 1;f0 1 0000 0;", -12, 10);
        text(figures + ", four", "b2 1;f0 1 0 0000;", -12, 12);
        text(figures + ", all that there is room for", "b" + "0".repeat(238) + "2", -12, 1);
        text(figures + ", more than an int holds", "b4294967298 1;", -12, 1);
        text(figures + ", none", "b;", -11, 1);
        text(figures + ", none", "b2 1;f0 1 0;", -11, 11);
        text(figures + ", no sign", "b+2 1;", -11, 1);
        text(figures + ", no sign", "b2 -1;", -11, 3);
        text(figures + ", '/' is no figure", "b/ 1;", -11, 1);
        text(figures + ", ':' is no figure", "b: 1;", -11, 1);
        String word = "section 1: a word is one letter";
        text(word, "bb2 1;", -11, 1);
        text(word, "b2 1;ff0 1 0 0;", -11, 6);
        text(word, "b2 1;bf", -13, 5);
    }

    private static void blanks() {
        String any = "section 1: blanks may stand anywhere but within NUMBERS";
        text(any, "  b  2  1  ;  f  0  1  0  0  ;  ", 2, -1);
        text(any, "b2 0 1;", -11, 5);
        text(any, "b2 1;f0 1 0 0 1;", -11, 14);
        String one = "section 1: two NUMBERS side by side need one";
        text(one, "b21;", -12, 1);
        text(one, "b2 1;f0100;", -12, 6);
        text(one, "b2 1;f010 0 0;", -12, 6);
        text(one, "b2 1;f0 100 0;", -12, 8);
        text(one, "b2 1;f0 1 00;", -11, 12);
        String alone = "section 1: blanks (32)";
        for (int letter : new int[] {0, 9, 10, 13, 31, 33, 160, 255}) {
            holds(alone + ", not " + letter, null, "feed(" + letter + ")=1 dale()=-11 fault()=0");
            holds(alone + ", not " + letter, null, "<b2> feed(" + letter + ") <1;> dale()=-11 fault()=2");
        }
    }

    private static void placesOfFaults() {
        for (int n = 0; n <= ONE.length(); n++) {
            boolean whole = n == 0 || n == 5 || n == 14;
            text("section 1: the end at the text's length", ONE.substring(0, n), n == 0 ? 0 : n == 5 ? 1 : n == 14 ? 2 : -11,
                whole ? -1 : n);
        }
        text("section 1: the end at the text's length, behind blanks", "b2 1   ", -11, 7);
        String first = "section 1: at the first letter that has one";
        text(first, "b1 10;", -12, 1);
        text(first, "b2 10x", -12, 3);
        text(first, "b2 x10;", -11, 3);
        text(first, "b2 1;f0 1 0 2;b", -12, 12);
        text(first, "b2 1;f0 0 5 9;", -12, 8);
        text(first, "b2 1;b1 x", -13, 5);
        text(first, "b1", -12, 1);
        text(first, "b10;", -12, 1);
        String stand = "section 1: 1 it cannot stand there";
        for (String sign : new String[] {"a", "c", "e", "g", "B", "F", "7", ";", "x", "~"}) {
            text(stand, sign, -11, 0);
            text(stand, "b2 1;" + sign, -11, 5);
            text(stand, "b2 1;f" + (sign.equals("7") ? ";" : sign), -11, 6);
        }
        text(stand, "b2 1,", -11, 4);
        text(stand, "b2 1:", -11, 4);
        text(stand, "b2 1;;", -11, 5);
    }

    private static void leastOfFaults() {
        String is = "section 1: FAULTS, of these the least";
        text(is + ", 1 for 'b' where a NUMBER is due", "bb", -11, 1);
        text(is + ", 1 for 'b' where ';' is due", "b2 1b", -11, 4);
        text(is + ", 1 for 'f' where a NUMBER is due", ROW.substring(0, 75) + "f", -11, 75);
        text(is + ", 1 for 'f' where ';' is due", ROW.substring(0, 76) + "f", -11, 76);
        text(is + ", 1 for four figures that cannot stand there", "b2 1 1234;", -11, 5);
        text(is + ", 1 for four figures at first", "1234", -11, 0);
        text(is + ", 1 for a NUMBER in place of a word", "b2 1;1234", -11, 5);
    }

    private static void noDale() {
        String is = "section 1: an empty text (or one of blanks alone): no DALE";
        text(is, "", 0, -1);
        text(is, " ", 0, -1);
        text(is, " ".repeat(240), 0, -1);
        holds(is, ONE, "dale()=0 told(0)=0 told(1)=0 told(4)=0 hour(1)=NOT farm(0,0)=UNKNOWN");
        holds(is, ONE, "feed(32)=1 dale()=0 fault()=NONE told(1)=0 rain(1)=NOT down(0)=UNKNOWN");
    }

    // ---- promise 1

    private static void aNewObject() {
        holds("promise 1: No DALE", null, "told(0)=0 told(1)=0 told(2)=0 told(3)=0 told(4)=0 told(5)=0 told(6)=0 told(7)=0 "
            + "told(8)=0 told(9)=NONE told(10)=NONE told(11)=0 told(12)=NONE told(13)=0 told(14)=0 told(15)=0 told(16)=0 "
            + "fault()=NONE farm(0,0)=UNKNOWN talk(0,0)=UNKNOWN logged(0,0)=NONE hour(1)=NOT say(0,0)=UNKNOWN rain(0)=NOT "
            + "frost(true)=NOT frost(false)=NOT dam(0,true)=UNKNOWN smooth(0)=UNKNOWN hush(0)=UNKNOWN drift(1)=NOT undo()=NOT "
            + "down(0)=UNKNOWN up(0)=UNKNOWN becomes(0,0,0)=UNKNOWN takes(0,0)=UNKNOWN toSay(0,0,0)=UNKNOWN "
            + "origin(0,0,NONE)=UNKNOWN privately(0)=0 privately(1)=UNKNOWN dams(0,0)=UNKNOWN willHear(0,0,0)=UNKNOWN "
            + "where(0,0,0)=UNKNOWN dry(1,50)=500000000 see(0,0)=UNKNOWN falls(0)=0 falls(1)=NONE tryNext()=NONE "
            + "write(0,NONE)=UNKNOWN tear()=0 judge()=NONE goBack(0)=NOT goBack(1)=NOT seed(0)=0 keep(0)=1 dale()=0");
    }

    // ---- promise 2

    private static void feed() {
        holds("promise 2: a number 0 .. 255", null, "feed(-1)=OUTSIDE feed(256)=OUTSIDE feed(LEAST)=OUTSIDE feed(MOST)=OUTSIDE "
            + "told(2)=0 feed(0)=1 feed(255)=2 told(2)=2");
        holds("promise 2: FULL (240)", null, "239*feed(32) feed(32)=240 feed(32)=FULL feed(0)=FULL feed(255)=FULL told(2)=240");
        holds("terms: OUTSIDE ahead of FULL", null, "240*feed(32) feed(256)=OUTSIDE feed(-1)=OUTSIDE");
        holds("promise 2: it comes behind THE TEXT", null, "<b2_1;> feed(120)=6 dale()=-11 fault()=5 feed(98)=1");
    }

    // ---- promise 3

    private static void daleAndItsText() {
        holds("promise 3: THE TEXT is empty then", null, "<b2_1;> dale()=1 told(2)=0 dale()=0");
        holds("promise 3: it is empty then, with a FAULT, too", null, "<b2_1> dale()=-11 told(2)=0 <b2_1;> told(2)=5 dale()=1");
        holds("promise 3: it is empty then, though it was full", null, "240*feed(120) dale()=-11 told(2)=0 feed(32)=1");
        String earlier = "promise 3: THE TEXT is empty then, nothing of it is read later";
        holds(earlier + ", a figure", null, "<b2_11;> dale()=-12 <b2_1> dale()=-11 fault()=4");
        holds(earlier + ", an end", null, "<b2_1;> dale()=1 <b2_1> dale()=-11 fault()=4 told(1)=1");
        holds(earlier + ", a blank", null, "<b2__1> dale()=-11 <b2_> dale()=-11 fault()=3");
        holds(earlier + ", a clause", null, "<b2_1;f0_1_0_0;> dale()=2 <b2_1;> dale()=1");
        holds("promise 3: how many FARMS", null, "dale()=0 <b2_1;> dale()=1 <" + ROW.replace(' ', '_') + "> dale()=9");
        holds("promise 3: -10 less the number of its FAULT", null, "<x> dale()=-11 <b1> dale()=-12 <b2_1;b> dale()=-13");
    }

    private static void daleBeginsAnew() {
        String two = "b3 9;f0 1 3 2;f1 1 0 0;";
        String again = "<" + two.replace(' ', '_') + "> dale()=3 ";
        holds("promise 3: HOUR 0", two, "hour(7) told(3)=7 " + again + "told(3)=0");
        holds("promise 3: FLOW F at first", two, "hour(60) told(4)=0 " + again + "told(4)=9");
        holds("promise 3: no TALK", two, "say(1,0) say(2,1) " + again + "told(7)=0 talk(0,0)=UNKNOWN hush(0)=UNKNOWN");
        holds("promise 3: no FROST", two, "frost(true) " + again + "told(5)=0 frost(true)=0");
        holds("promise 3: no DAMS", two, "dam(1,true) dam(2,true) " + again + "told(6)=0 dam(1,true)=0");
        holds("promise 3: FALLS as told", two, "smooth(1)=3 " + again + "farm(1,2)=3 smooth(1)=3");
        holds("promise 3: nothing HEARD", two, "say(1,0) say(1,1) hour(1) farm(0,5)=2 told(8)=1 " + again
            + "farm(0,4)=NONE farm(0,5)=0 told(9)=NONE told(13)=0 logged(0,0)=NONE told(8)=0");
        holds("promise 3: nothing SEEN", two, "see(0,1) see(1,0) " + again + "told(14)=0 falls(0)=8 falls(1)=0");
        holds("promise 3: no BOOK", two, "write(0,2) write(1,1) " + again + "told(15)=0 judge()=NONE");
        holds("promise 3: IMAGES are gone", two, "keep(0) keep(1) " + again + "goBack(0)=NOT goBack(1)=NOT");
        holds("promise 3: what could be undone is gone", two, "rain(1) rain(2) told(16)=2 " + again + "told(16)=0 undo()=NOT");
        holds("promise 3: THE SEED stays", two, "seed(77)=0 " + again + "seed(0)=77");
        holds("promise 3: 0: no DALE; all this, too", two, "seed(5)=0 say(2,1) hour(1) frost(true) dam(1,true) see(0,0) write(0,0) "
            + "keep(0) rain(3) dale()=0 told(0)=0 told(1)=0 told(3)=0 told(4)=0 told(5)=0 told(6)=0 told(7)=0 told(9)=NONE "
            + "told(13)=0 told(14)=0 told(15)=0 told(16)=0 goBack(0)=NOT undo()=NOT logged(0,0)=NONE falls(0)=0 seed(0)=5");
    }

    private static void daleWithAFault() {
        String made = "seed(5)=0 say(2,1)=1 hour(1)=1 see(1,1)=1 write(1,0)=1 keep(1)=1 frost(true)=0 dam(2,true)=0 smooth(1)=3 ";
        String left = "told(0)=3 told(1)=3 told(3)=1 told(4)=9 told(5)=1 told(6)=4 told(7)=1 told(9)=1 told(13)=1 told(14)=1 "
            + "told(15)=1 told(16)=3 farm(1,2)=0 farm(2,1)=1 farm(1,4)=1 talk(0,2)=8 judge()=0 undo()=2 goBack(1)=1 told(5)=0 "
            + "goBack(0)=NOT seed(0)=5";
        for (String harm : new String[] {"<x> dale()=-11 ", "<b2_1;f0_1_0_2;> dale()=-12 ", "<b9_1;f0_1_0_0;b> dale()=-13 "}) {
            holds("promise 3: with a FAULT all else is as it was", "b3 9;f0 2 3 2;f1 1 0 0;", made + harm + left);
        }
        holds("promise 3: with a FAULT, without a DALE ahead", null, "seed(3)=0 <b2_1;f0_1_0_0;x> dale()=-11 told(0)=0 told(1)=0 "
            + "told(4)=0 farm(0,0)=UNKNOWN hour(1)=NOT seed(0)=3");
    }

    // ---- promise 4

    private static void fault() {
        holds("promise 4: NONE ahead of all", null, "fault()=NONE <x> fault()=NONE");
        holds("promise 4: of the latest dale()", null, "<x> dale()=-11 fault()=0 <b2_1;> fault()=0 dale()=1 fault()=NONE "
            + "<b2_1;x> dale()=-11 fault()=5 fault()=5 dale()=0 fault()=NONE");
    }

    // ---- promise 5

    private static void told() {
        holds("promise 5: OUTSIDE", ONE, "told(-1)=OUTSIDE told(17)=OUTSIDE told(LEAST)=OUTSIDE told(MOST)=OUTSIDE told(16)=0");
        holds("promise 5: OUTSIDE, without a DALE", null, "told(-1)=OUTSIDE told(17)=OUTSIDE");
        holds("promise 5: 6 DAMMED, all", ROW, "dam(1,true) dam(2,true) dam(3,true) dam(4,true) dam(5,true) dam(6,true) dam(7,true) "
            + "dam(8,true) told(6)=510 dam(8,false)=1 told(6)=254");
        holds("promise 5: 7, 13, 14, 15, 16 when they are full", ROW, "12*say(1,0) told(7)=12 hour(1) 12*say(1,1) hour(1) told(13)=20 "
            + "6*see(0,0) told(14)=6 15*write(0,0) told(15)=15 told(16)=16");
    }

    private static void loudest() {
        String is = "section 3: LOUDEST";
        holds(is + "; NONE: nobody anything", ROW, "told(9)=NONE say(3,0) told(9)=NONE hour(1) told(9)=2");
        holds(is + "; of like ones the least", ROW, "say(3,0) hour(3) farm(2,5)=1 farm(0,5)=1 told(9)=0 say(8,0) hour(1) told(9)=0");
        holds(is + ": the FARM that HEARD most", ROW, "say(8,0) say(8,1) hour(1) told(9)=7 hour(7) told(9)=0");
        holds(is + "; NONE when it is undone", ROW, "say(1,0) hour(1) told(9)=0 undo()=1 told(9)=NONE");
    }

    private static void bottom() {
        String is = "section 3: BOTTOM";
        holds(is + "; NONE: but THE ESTUARY there is none", "b2 1;", "told(10)=NONE");
        holds(is + " is not THE ESTUARY", ONE, "up(0)=2 told(10)=1");
        holds(is + "; of like ones the least", "b2 1;f0 1 0 0;f0 1 0 0;f1 1 0 0;f2 1 0 0;", "told(10)=1");
        holds(is + ": with most of UP", "b2 1;f0 1 0 0;f0 1 0 0;f1 1 0 0;f2 1 0 0;f2 1 0 0;", "told(10)=2");
        holds(is + " by DAMS", ROW, "told(10)=1 dam(2,true) up(1)=4 told(10)=2 dam(2,false) told(10)=1");
    }

    private static void even() {
        String is = "section 3: EVEN";
        holds(is + ", THE ESTUARY alone", "b2 1;", "told(11)=0");
        holds(is + ", not from THE ESTUARY", ROW, "told(11)=510");
        holds(is + " (NONE comes there: not)", ROW, "dam(2,true) told(11)=6 dam(1,true) told(11)=2");
        holds(is + ": all WORDS, the first too", "b3 6;f0 1 4 1;", "told(11)=0 becomes(1,0,0)=1 becomes(1,0,1)=1 becomes(1,0,2)=2");
        holds(is + ": all WORDS, the last too", "b3 6;f0 1 2 1;", "told(11)=0 becomes(1,0,1)=1 becomes(1,0,2)=1");
        holds(is + ", by FALLS that do nothing", "b3 6;f0 1 0 2;f0 1 1 0;f0 1 2 2;f0 1 4 0;f0 1 3 0;", "told(11)=30");
        holds(is + ", by FALLS that undo one another", "b3 6;f0 1 1 1;f1 1 1 2;f0 1 3 0;f3 1 3 0;", "told(11)=20");
        holds(is + ", with FLOW of 7 or more", "b3 6;f0 1 3 0;", "told(11)=0 rain(7) told(11)=2 rain(9) told(11)=2 rain(6) told(11)=0");
        holds(is + ", with FLOW 0", "b3 0;f0 1 0 0;f0 1 1 1;", "told(11)=2");
    }

    private static void longest() {
        String is = "section 3: LONGEST";
        holds(is + "; NONE: THE ESTUARY alone", "b2 9;", "told(12)=NONE");
        holds(is + "; NONE: FLOW 0", ROW, "rain(0) told(12)=NONE rain(1) told(12)=8");
        holds(is + "; of like ones the least", "b2 1;f0 2 0 0;f0 1 0 0;f2 1 0 0;", "takes(1,0)=8 takes(3,0)=8 told(12)=1");
        holds(is + ", by HOURS, not by how far it is", "b2 9;f0 2 0 0;f0 1 0 0;f2 1 0 0;f3 1 0 0;", "takes(1,0)=1 takes(4,0)=3 told(12)=4");
        holds(is + ", only from where it comes there", ROW, "dam(1,true) told(12)=1 dam(1,false) dam(7,true) told(12)=7");
        holds(is + ", there is no FROST", ROW, "frost(true) told(12)=8");
    }

    // ---- promise 6

    private static void farm() {
        holds("promise 6: THE ESTUARY: NONE, 0 each", "b9 9;f0 9 4 8;", "farm(0,0)=NONE farm(0,1)=0 farm(0,2)=0 farm(0,3)=0 "
            + "farm(0,4)=NONE farm(0,5)=0");
        holds("promise 6: UNKNOWN", ROW, "farm(8,0)=7 farm(9,0)=UNKNOWN farm(-1,0)=UNKNOWN farm(MOST,0)=UNKNOWN farm(LEAST,0)=UNKNOWN");
        holds("promise 6: UNKNOWN, THE ESTUARY alone", "b2 1;", "farm(0,1)=0 farm(1,1)=UNKNOWN");
        holds("promise 6: OUTSIDE", ROW, "farm(8,5)=0 farm(8,6)=OUTSIDE farm(0,-1)=OUTSIDE farm(0,MOST)=OUTSIDE farm(0,LEAST)=OUTSIDE");
        holds("terms: UNKNOWN ahead of OUTSIDE, farm", ROW, "farm(9,6)=UNKNOWN farm(-1,-1)=UNKNOWN");
        holds("promise 6: SORT now", "b3 1;f0 1 4 2;", "farm(1,2)=4 smooth(1)=4 farm(1,2)=0 farm(1,3)=2 undo() farm(1,2)=4");
        holds("promise 6: the latest it HEARD (NONE)", "b3 4;f0 1 0 0;", "say(1,2) farm(0,4)=NONE hour(1) farm(0,4)=2 hour(9) farm(0,4)=2");
    }

    // ---- promise 7

    private static void talk() {
        holds("promise 7: UNKNOWN, none goes", ONE, "talk(0,0)=UNKNOWN talk(-1,0)=UNKNOWN");
        holds("promise 7: UNKNOWN, twelve go", ROW, "11*say(2,0) say(8,1) talk(11,0)=1 talk(11,1)=8 talk(11,3)=8 talk(0,1)=2 "
            + "talk(12,0)=UNKNOWN talk(-1,0)=UNKNOWN talk(MOST,0)=UNKNOWN talk(LEAST,0)=UNKNOWN");
        holds("promise 7: UNKNOWN, it is over", ONE, "say(1,0) talk(0,0)=0 hush(0) talk(0,0)=UNKNOWN");
        holds("promise 7: OUTSIDE", ONE, "say(1,0) talk(0,3)=1 talk(0,4)=OUTSIDE talk(0,-1)=OUTSIDE talk(0,MOST)=OUTSIDE");
        holds("terms: UNKNOWN ahead of OUTSIDE, talk", ONE, "talk(0,4)=UNKNOWN say(1,0) talk(1,4)=UNKNOWN talk(-1,-1)=UNKNOWN");
        holds("promise 7: 0 the first SAID of these", ROW, "say(1,0) say(8,1) say(7,1) hour(1)=2 talk(0,3)=8 talk(1,3)=7 talk(0,1)=7 talk(1,1)=6");
    }

    // ---- promise 8

    private static void logged() {
        holds("promise 8: NONE", ONE, "logged(0,0)=NONE logged(19,3)=NONE logged(20,0)=NONE logged(-1,0)=NONE logged(MOST,3)=NONE "
            + "logged(LEAST,3)=NONE");
        holds("promise 8: NONE behind the last", "b2 4;f0 1 0 0;", "say(1,1) hour(1) logged(0,0)=0 logged(0,1)=1 logged(0,2)=0 "
            + "logged(0,3)=1 logged(1,0)=NONE logged(-1,0)=NONE");
        holds("promise 8: OUTSIDE (what)", "b2 4;f0 1 0 0;", "logged(0,4)=OUTSIDE logged(0,-1)=OUTSIDE say(1,1) hour(1) logged(0,4)=OUTSIDE "
            + "logged(0,-1)=OUTSIDE logged(0,MOST)=OUTSIDE logged(0,LEAST)=OUTSIDE");
        holds("promise 8: OUTSIDE (what) ahead of NONE", ONE, "logged(-1,4)=OUTSIDE logged(20,4)=OUTSIDE logged(MOST,-1)=OUTSIDE");
        holds("section 2: THE LOG keeps the latest 20", "b9 9;f0 1 0 0;", "12*say(1,1) hour(1) told(13)=12 7*say(1,2) hour(1) told(13)=19 "
            + "logged(18,1)=1 logged(19,1)=NONE say(1,3) hour(1) told(13)=20 logged(19,1)=1 logged(19,2)=0 logged(20,1)=NONE say(1,4) hour(1) "
            + "told(13)=20 logged(0,1)=4 logged(0,2)=3 logged(1,1)=3 logged(2,1)=2 logged(9,1)=1 logged(8,1)=2 logged(19,1)=1 logged(20,1)=NONE");
        holds("section 2: THE LOG goes round more than once", "b9 9;f0 1 0 0;", "12*say(1,1) hour(1) 12*say(1,2) hour(1) rain(9) 12*say(1,3) hour(1) "
            + "12*say(1,4) hour(1) say(1,5) hour(1) told(13)=20 logged(0,1)=5 logged(1,1)=4 logged(12,1)=4 logged(13,1)=3 logged(19,1)=3 "
            + "logged(19,2)=2 logged(20,1)=NONE");
        holds("section 2: THE LOG, undone and gone back to", "b9 9;f0 1 0 0;", "12*say(1,1) hour(1) 12*say(1,2) hour(1) keep(0) rain(9) 12*say(1,3) hour(1) "
            + "logged(19,1)=2 logged(12,1)=2 logged(11,1)=3 undo()=13 told(13)=20 logged(0,1)=2 logged(11,1)=2 logged(12,1)=1 logged(19,1)=1 hour(1) "
            + "goBack(0) logged(0,1)=2 logged(11,1)=2 logged(12,1)=1 logged(19,1)=1 told(13)=20");
    }
}
