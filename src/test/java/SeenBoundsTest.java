/** The boundary cases of what is seen, of THE BOOK, THE SEED and IMAGES (promises 29 to 37), sentence by sentence. */
public final class SeenBoundsTest {
    private static final Check check = new Check("SeenBoundsTest");

    private static final String ALONE = "b5 9;";
    private static final String FIVE = Check.FIVE;

    public static void main(String[] args) {
        see();
        fallsAndTheirBounds();
        falls();
        tryNext();
        write();
        tear();
        judge();
        seed();
        keep();
        keepsAll();
        goBack();
        check.end();
    }

    private static void holds(String sentence, String dale, String calls) {
        Script.run(check, sentence, dale, calls);
    }

    // ---- promise 29

    private static void see() {
        holds("promise 29: UNKNOWN", ALONE, "see(5,0)=UNKNOWN see(0,5)=UNKNOWN see(-1,0)=UNKNOWN see(0,-1)=UNKNOWN see(MOST,0)=UNKNOWN "
            + "see(0,LEAST)=UNKNOWN told(14)=0 see(4,4)=1");
        holds("promise 29: UNKNOWN, without a DALE", null, "see(0,0)=UNKNOWN see(-1,-1)=UNKNOWN");
        holds("promise 29: FULL (6)", ALONE, "5*see(1,1) see(1,1)=6 see(1,1)=FULL see(0,4)=FULL told(14)=6 falls(1)=0");
        holds("promise 29: FULL no more when it is torn", ALONE, "6*see(1,1) see(1,1)=FULL tear()=6 see(0,4)=1 falls(0)=3");
        holds("terms: UNKNOWN ahead of FULL, see", ALONE, "6*see(1,1) see(5,0)=UNKNOWN see(0,-1)=UNKNOWN");
        holds("promise 29: the same again counts again", ALONE, "see(1,1)=1 see(1,1)=2 see(1,2)=3 told(14)=3");
    }

    // ---- promise 30

    private static void fallsAndTheirBounds() {
        String five = "see(0,0) see(1,1) see(2,2) see(3,3) see(4,4) ";
        holds("section 3: G 0 with K 0 alone (and none else that does nothing)", ALONE, five + "falls(0)=1 falls(1)=0");
        holds("section 3: G 3 with K 0 alone", ALONE, "see(0,4) see(1,3) falls(0)=1 falls(1)=30");
        holds("section 3: G 1 with K 1 and on alone, the least", ALONE, "see(0,1) falls(0)=2 falls(1)=11 see(4,0) falls(0)=1 falls(1)=11");
        holds("section 3: G 1 with K 1 and on alone, the most", ALONE, "see(0,4) falls(0)=3 falls(1)=14 see(2,1) falls(0)=1 falls(1)=14");
        holds("section 3: G 4 with K 1 and on alone, the least", ALONE, "see(0,1) see(4,4) falls(0)=1 falls(1)=41");
        holds("section 3: G 4 with K 1 and on alone, the most", ALONE, "see(0,4) see(3,4) falls(0)=1 falls(1)=44");
        holds("section 3: G 2 with K up to W less 2 alone, the least", ALONE, "see(4,0) falls(0)=3 falls(1)=11 see(3,0) falls(0)=1 falls(1)=20");
        holds("section 3: G 2 with K up to W less 2 alone, the most", ALONE, "see(4,3) falls(0)=2 falls(1)=14 see(0,0) falls(0)=1 falls(1)=23");
        String all = "section 3: FALLS, nothing SEEN";
        holds(all + ", two WORDS", "b2 1;", "falls(0)=5 falls(1)=0");
        holds(all + ", nine WORDS", "b9 1;", "falls(0)=26 falls(1)=0");
        holds(all + ", no DALE", null, "falls(0)=0 falls(1)=NONE");
    }

    private static void falls() {
        holds("promise 30: OUTSIDE", ALONE, "falls(-1)=OUTSIDE falls(2)=OUTSIDE falls(MOST)=OUTSIDE falls(LEAST)=OUTSIDE");
        holds("promise 30: OUTSIDE, without a DALE", null, "falls(-1)=OUTSIDE falls(2)=OUTSIDE");
        holds("promise 30: NONE", ALONE, "see(0,1) see(0,2) falls(0)=0 falls(1)=NONE");
        holds("section 3: SEEN: GARBLED once, whatever FLOW is", ALONE, "rain(9) see(0,2) falls(0)=2 falls(1)=12 rain(0) falls(0)=2 falls(1)=12");
        holds("section 3: by which all that is SEEN is so, the sixth too", ALONE, "5*see(4,4) falls(0)=5 see(0,3) falls(0)=1 falls(1)=43");
        holds("section 3: two that do alike are two", "b2 1;", "see(0,1) see(1,0) falls(0)=2 falls(1)=11");
    }

    // ---- promise 31

    private static void tryNext() {
        String none = "section 3: TRY; NONE: none parts them";
        holds(none + ", no DALE", null, "tryNext()=NONE");
        holds(none + ", no FALL is left", ALONE, "see(0,1) see(0,2) tryNext()=NONE");
        holds(none + ", one is left", ALONE, "see(0,4) see(3,4) falls(0)=1 tryNext()=NONE");
        holds(none + ", two alike are left", "b2 1;", "see(0,1) see(1,0) falls(0)=2 tryNext()=NONE");
        // Of 0 11 20 30 41 by word 0: 0 1 0 1 1, by word 1: 1 0 0 0 1; the greatest part is 3 by both.
        holds("section 3: TRY, of like ones the least", "b2 1;", "tryNext()=0");
        // Of 11 30 41 by word 0: 1 1 1, by word 1: 0 0 1.
        holds("section 3: TRY, two of three", "b2 1;", "see(0,1) tryNext()=1");
        // Of 14 30 44 by word 0: 4 4 4, by 1: 0 3 4.
        holds("section 3: TRY, the greatest part that is alike is least", ALONE, "see(0,4) tryNext()=1");
        // Of 0 20 21 22 23 by word 1: 1 0 1 1 1, by 2: 2 0 1 2 2, by 3: 3 0 1 2 3, by 4: 4 0 1 2 3.
        holds("section 3: TRY, the last WORD", ALONE, "see(0,0) tryNext()=4");
        // Of 14 23 by word 0: 4 0.
        holds("section 3: TRY, the first WORD", ALONE, "see(4,3) tryNext()=0");
        // Of 0 41 .. 48 by word 0: 0 1 .. 8; of 0 20 .. 27 by word 8: 8 0 .. 7; of 18 30 48 by word 1: 0 7 8.
        holds("section 3: TRY, nine WORDS", "b9 1;", "see(8,8) falls(0)=9 tryNext()=0 tear() see(0,0) falls(0)=9 tryNext()=8 tear() see(0,8) falls(0)=3 "
            + "tryNext()=1");
        // Of 0 23 by word 4 alone: 4 3; of 0 41 by word 0 alone: 0 1.
        holds("section 3: TRY, one of two does nothing", ALONE, "see(0,0) see(3,3) falls(0)=2 tryNext()=4 tear() see(4,4) see(1,1) falls(0)=2 tryNext()=0");
        holds("section 3: TRY, six SEEN", ALONE, "6*see(4,3) tryNext()=0");
    }

    // ---- promise 32

    private static void write() {
        holds("promise 32: UNKNOWN, a FARM", FIVE, "write(5,0)=1 write(6,0)=UNKNOWN write(-1,0)=UNKNOWN write(MOST,NONE)=UNKNOWN told(15)=1");
        holds("promise 32: UNKNOWN, a WORD, or NONE", FIVE, "write(0,4)=1 write(0,NONE)=2 write(0,5)=UNKNOWN write(0,-2)=UNKNOWN "
            + "write(0,MOST)=UNKNOWN write(0,LEAST)=UNKNOWN told(15)=2");
        holds("promise 32: UNKNOWN, without a DALE", null, "write(0,0)=UNKNOWN write(0,NONE)=UNKNOWN");
        holds("promise 32: FULL (15)", FIVE, "14*write(0,NONE) write(0,NONE)=15 write(0,NONE)=FULL write(0,0)=FULL told(15)=15 judge()=NONE");
        holds("promise 32: FULL no more when it is torn", FIVE, "15*write(0,NONE) write(0,NONE)=FULL tear()=15 write(0,NONE)=1");
        holds("terms: UNKNOWN ahead of FULL, write", FIVE, "15*write(0,NONE) write(6,0)=UNKNOWN write(0,5)=UNKNOWN write(0,-2)=UNKNOWN");
    }

    // ---- promises 33, 34

    private static void tear() {
        holds("promise 33: how much both had, nothing", FIVE, "tear()=0");
        holds("promise 33: how much both had, without a DALE", null, "tear()=0");
        holds("promise 33: how much both had, all", FIVE, "6*see(1,1) 15*write(0,0) tear()=21 told(14)=0 told(15)=0 tear()=0 falls(0)=14 judge()=NONE");
        holds("promise 33: one of them", FIVE, "see(1,2) tear()=1 write(0,0) tear()=1");
    }

    private static void judge() {
        holds("section 3: WRONG; NONE, an empty BOOK", FIVE, "judge()=NONE");
        holds("section 3: WRONG; NONE, without a DALE", null, "judge()=NONE");
        holds("section 3: THE BOOK (NONE: nothing)", FIVE, "write(0,NONE) judge()=NONE write(1,0) judge()=1 say(4,4) hour(1) judge()=0");
        holds("section 3: WRONG: the first that is otherwise now", FIVE, "write(1,4) write(0,NONE) judge()=0 say(2,0) hour(1) judge()=NONE hour(2) judge()=1 "
            + "undo() judge()=NONE");
        holds("section 3: WRONG, the last of fifteen", FIVE, "14*write(0,NONE) write(0,0) judge()=14");
        holds("section 3: WRONG, the first of fifteen", FIVE, "15*write(5,0) judge()=0");
        holds("section 3: two entries of one FARM", FIVE, "write(0,NONE) write(0,3) judge()=1 say(4,0) hour(1) judge()=0");
    }

    // ---- promise 35

    private static void seed() {
        holds("promise 35: v (0 .. 2147483647)", null, "seed(-1)=OUTSIDE seed(LEAST)=OUTSIDE seed(MOST)=0 seed(-1)=OUTSIDE seed(0)=2147483647 seed(1)=0 "
            + "seed(0)=1");
        holds("section 3: THE SEED (0 at first)", FIVE, "seed(0)=0");
        holds("promise 35: it cannot be undone", FIVE, "seed(7)=0 told(16)=0 undo()=NOT rain(1) seed(8)=7 undo()=0 seed(0)=8");
    }

    // ---- promises 36, 37

    private static void keep() {
        holds("promise 36: UNKNOWN", FIVE, "keep(-1)=UNKNOWN keep(2)=UNKNOWN keep(MOST)=UNKNOWN keep(LEAST)=UNKNOWN keep(32)=UNKNOWN goBack(0)=NOT "
            + "goBack(1)=NOT keep(0)=1 goBack(1)=NOT keep(1)=1 goBack(1)=1");
        holds("promise 36: UNKNOWN changes nothing: it can be undone", FIVE, "rain(1) keep(2)=UNKNOWN told(16)=1 undo()=0");
        holds("promise 36: nothing can be undone then", FIVE, "rain(1) rain(2) keep(0)=1 told(16)=0 undo()=NOT told(4)=2 rain(3) told(16)=1 undo()=0 "
            + "told(4)=2");
        holds("promise 36: sixteen, then nothing, then sixteen", FIVE, "20*rain(1) keep(1) told(16)=0 17*rain(2) told(16)=16 16*undo() undo()=NOT told(4)=2");
        holds("promise 36: kept again", FIVE, "keep(0) rain(7) keep(0)=1 rain(2) goBack(0)=1 told(4)=7");
        holds("promise 36: each its own", FIVE, "keep(0) rain(7) seed(3) keep(1) goBack(0) told(4)=4 seed(0)=0 goBack(1) told(4)=7 seed(0)=3");
        holds("promise 36: without a DALE", null, "seed(4) keep(0)=1 seed(5) goBack(0)=1 seed(6)=4 goBack(1)=NOT");
    }

    private static void keepsAll() {
        String dale = "b3 4;f0 1 1 1;f1 2 3 0;";
        String made = "say(1,0) say(1,1) say(2,0) hour(1)=1 dam(2,true) smooth(2)=3 frost(true) rain(5) seed(12) keep(0) ";
        String is = "told(3)=1 told(4)=5 told(5)=1 told(6)=4 told(7)=1 told(8)=1 told(13)=2 told(16)=0 farm(0,4)=2 farm(0,5)=2 farm(1,4)=NONE farm(1,5)=0 "
            + "farm(1,2)=1 farm(2,2)=0 talk(0,0)=0 talk(0,1)=2 talk(0,2)=4 talk(0,3)=2 logged(0,1)=2 logged(1,1)=1 logged(2,0)=NONE seed(12)=12";
        holds("section 3: IMAGES keep all of section 2, THE SEED", dale, made + "frost(false) hour(60) dam(2,false) smooth(1) drift(60) say(1,2) goBack(0)=1 " + is);
        holds("section 3: IMAGES, gone on from twice", dale, made + "goBack(0) drift(60) hush(0) dam(1,true) goBack(0)=1 " + is);
        holds("section 3: IMAGES, kept of what was gone back to", dale, made + "rain(1) goBack(0) keep(1) drift(60) keep(0) hour(60) goBack(1)=1 " + is);
    }

    private static void goBack() {
        holds("promise 37: UNKNOWN", FIVE, "goBack(-1)=UNKNOWN goBack(2)=UNKNOWN goBack(MOST)=UNKNOWN goBack(LEAST)=UNKNOWN goBack(32)=UNKNOWN");
        holds("promise 37: NOT: it was not kept", FIVE, "goBack(0)=NOT goBack(1)=NOT keep(1) goBack(0)=NOT goBack(1)=1");
        holds("promise 37: NOT changes nothing: it can be undone", FIVE, "rain(1) goBack(0)=NOT told(16)=1 undo()=0 told(4)=4");
        holds("promise 37: nothing can be undone then", FIVE, "keep(0) rain(1) rain(2) goBack(0)=1 told(16)=0 undo()=NOT told(4)=4");
        holds("promise 37: HOURS above 9000", FIVE, "keep(0) 150*hour(60) hour(1) keep(1) hour(1)=FULL goBack(0)=1 hour(1)=0 goBack(1)=1 hour(1)=FULL");
        holds("promise 37: THE TEXT, SEEN, THE BOOK stay", FIVE, "keep(0) feed(98) see(1,2) write(0,4) rain(2) goBack(0)=1 told(2)=1 told(14)=1 told(15)=1 "
            + "judge()=0");
        holds("terms: UNKNOWN ahead of NOT, goBack", null, "goBack(2)=UNKNOWN goBack(-1)=UNKNOWN goBack(0)=NOT");
    }
}
