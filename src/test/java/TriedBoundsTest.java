/** The boundary cases of what is tried (section 3, promises 18 to 28), sentence by sentence. */
public final class TriedBoundsTest {
    private static final Check check = new Check("TriedBoundsTest");

    private static final String ALONE = "b2 1;";
    private static final String ROW = "b2 9;f0 1 0 0;f1 1 0 0;f2 1 0 0;f3 1 0 0;f4 1 0 0;f5 1 0 0;f6 1 0 0;f7 1 0 0;";
    private static final String FIVE = Check.FIVE;

    public static void main(String[] args) {
        nothingChanges();
        down();
        up();
        becomes();
        takes();
        toSay();
        origin();
        privately();
        dams();
        damsBesides();
        willHear();
        willHearAsItGoesOn();
        where();
        dry();
        check.end();
    }

    private static void holds(String sentence, String dale, String calls) {
        Script.run(check, sentence, dale, calls);
    }

    private static void nothingChanges() {
        String made = "say(5,4)=1 say(2,0)=2 hour(1)=2 keep(0)=1 rain(5)=4 see(1,1)=1 write(1,0)=1 seed(9)=0 ";
        String left = "told(3)=1 told(4)=5 told(5)=0 told(6)=0 told(7)=2 told(8)=0 told(13)=2 told(14)=1 told(15)=1 told(16)=1 talk(0,1)=3 "
            + "talk(0,2)=12 talk(1,1)=1 talk(1,2)=8 farm(1,4)=4 farm(3,4)=4 farm(0,5)=0 logged(0,0)=1 judge()=0 seed(0)=9 undo()=0 told(4)=4 goBack(0)=1";
        String[] tried = {"down(5)=11", "up(0)=62", "becomes(5,0,4)=3", "takes(5,0)=6", "toSay(5,0,3)=30", "origin(0,3,NONE)=14", "privately(2)=18",
            "dams(5,1)=2", "willHear(0,100,0)=2", "willHear(0,100,1)=3", "where(0,100,0)=NONE", "where(1,1,0)=1", "dry(60,99)", "falls(0)", "tryNext()",
            "judge()=0", "told(9)=1", "told(10)=1", "told(11)=0", "told(12)=5"};
        for (String call : tried) {
            holds("section 3: nothing changes by what is tried, " + call, FIVE, made + call + " " + left);
        }
    }

    // ---- promise 18

    private static void down() {
        holds("promise 18: UNKNOWN", ROW, "down(8)=255 down(9)=UNKNOWN down(-1)=UNKNOWN down(MOST)=UNKNOWN down(LEAST)=UNKNOWN");
        holds("section 3: DOWN of THE ESTUARY", ALONE, "down(0)=0 down(1)=UNKNOWN");
        holds("section 3: DOWN is not the FARM itself", ROW, "down(1)=1 down(2)=3");
        holds("section 3: DOWN, DAMS stay as they are", ROW, "dam(1,true) down(1)=1 down(2)=2 down(8)=254 dam(7,true) down(8)=128 down(7)=126 "
            + "dam(8,true) down(8)=128");
        holds("section 3: DOWN, there is no FROST", ROW, "frost(true) down(8)=255");
        holds("section 3: DOWN, with FLOW 0", ROW, "rain(0) down(8)=255 up(0)=510");
    }

    // ---- promise 19

    private static void up() {
        holds("promise 19: UNKNOWN", ROW, "up(8)=0 up(9)=UNKNOWN up(-1)=UNKNOWN up(MOST)=UNKNOWN up(LEAST)=UNKNOWN");
        holds("section 3: UP of THE ESTUARY", ROW, "up(0)=510 up(1)=508");
        holds("section 3: UP of THE ESTUARY alone", ALONE, "up(0)=0");
        holds("section 3: UP, DAMS stay as they are", ROW, "dam(4,true) up(4)=480 up(3)=16 up(0)=30 dam(4,false) up(0)=510");
    }

    // ---- promise 20

    private static void becomes() {
        holds("promise 20: UNKNOWN, a FARM", FIVE, "becomes(6,0,0)=UNKNOWN becomes(-1,0,0)=UNKNOWN becomes(1,6,0)=UNKNOWN becomes(1,-1,0)=UNKNOWN "
            + "becomes(MOST,LEAST,0)=UNKNOWN becomes(5,0,0)=2");
        holds("promise 20: UNKNOWN, a WORD", FIVE, "becomes(1,0,5)=UNKNOWN becomes(1,0,-1)=UNKNOWN becomes(1,0,MOST)=UNKNOWN becomes(1,0,4)=1");
        holds("promise 20: UNKNOWN ahead of NONE", FIVE, "becomes(0,0,5)=UNKNOWN becomes(0,6,0)=UNKNOWN becomes(1,2,-1)=UNKNOWN");
        holds("section 3: BECOMES; NONE", FIVE, "becomes(0,0,0)=NONE becomes(1,1,0)=NONE becomes(1,2,0)=NONE becomes(4,1,0)=NONE becomes(0,1,0)=NONE");
        holds("section 3: BECOMES; NONE behind a DAM", FIVE, "dam(1,true) becomes(2,1,0)=4 becomes(2,0,0)=NONE becomes(1,0,0)=2 dam(1,false) "
            + "becomes(2,0,0)=1");
        holds("section 3: BECOMES, FALLS stay as they are", FIVE, "smooth(1) becomes(2,0,0)=4 becomes(1,0,4)=4");
        holds("section 3: BECOMES, FLOW stays as it is", "b5 7;f0 9 1 1;f1 9 1 1;", "hour(5) becomes(2,0,0)=4 becomes(2,1,0)=2 hour(1) becomes(2,0,0)=2");
        holds("section 3: BECOMES, FLOW 0, FROST", FIVE, "rain(0) frost(true) becomes(2,0,0)=1");
    }

    // ---- promise 21

    private static void takes() {
        holds("promise 21: UNKNOWN", FIVE, "takes(6,0)=UNKNOWN takes(-1,0)=UNKNOWN takes(5,6)=UNKNOWN takes(5,-1)=UNKNOWN takes(LEAST,MOST)=UNKNOWN");
        holds("promise 21: UNKNOWN ahead of NONE", FIVE, "rain(0) takes(6,0)=UNKNOWN takes(0,6)=UNKNOWN");
        holds("section 3: TAKES; NONE", FIVE, "takes(0,0)=NONE takes(1,1)=NONE takes(1,2)=NONE takes(4,1)=NONE");
        holds("section 3: TAKES; NONE (FLOW 0, too)", FIVE, "rain(0) takes(5,0)=NONE takes(5,3)=NONE rain(1) takes(5,3)=4 takes(5,0)=24");
        String hours = "section 3: TAKES: how many HOURS till then";
        holds(hours + ", what is over is lost", "b2 9;f0 1 0 0;f1 1 0 0;f2 9 0 0;", "takes(1,0)=1 takes(2,0)=2 takes(3,2)=4 takes(3,0)=6");
        holds(hours + ", at 0 and at 1 left over", "b2 4;f0 9 0 0;", "takes(1,0)=9 rain(5) takes(1,0)=8 rain(6) takes(1,0)=6 rain(7) takes(1,0)=6 "
            + "rain(9) takes(1,0)=4 rain(1) takes(1,0)=36");
        holds(hours + ", as it then is", "b2 5;f0 4 0 0;", "takes(1,0)=4 say(1,0) hour(3)=1 hour(1)=0");
        holds("section 3: TAKES, FLOW stays as it is", "b2 1;f0 9 0 0;", "takes(1,0)=36 hour(5) takes(1,0)=36 hour(1) takes(1,0)=NONE");
        holds("section 3: TAKES, there is no FROST", FIVE, "frost(true) takes(5,0)=6");
        holds("section 3: TAKES; NONE behind a DAM", FIVE, "dam(3,true) takes(5,3)=1 takes(5,1)=NONE takes(3,1)=3");
    }

    // ---- promise 22

    private static void toSay() {
        holds("promise 22: UNKNOWN, a FARM", FIVE, "toSay(6,0,0)=UNKNOWN toSay(-1,0,0)=UNKNOWN toSay(1,6,0)=UNKNOWN toSay(1,-1,0)=UNKNOWN");
        holds("promise 22: UNKNOWN, a WORD", FIVE, "toSay(1,0,5)=UNKNOWN toSay(1,0,-1)=UNKNOWN toSay(0,0,MOST)=UNKNOWN toSay(1,0,4)=4");
        holds("section 3: SAY, no WORDS", FIVE, "toSay(0,0,0)=0 toSay(1,2,0)=0 toSay(1,1,0)=0 toSay(4,0,2)=0 toSay(4,0,0)=0");
        holds("section 3: SAY, all WORDS", "b9 1;f0 1 4 8;f0 1 2 0;", "toSay(1,0,8)=511 toSay(1,0,7)=0 toSay(2,0,0)=511 toSay(2,0,1)=0");
        holds("section 3: SAY, behind a DAM", FIVE, "dam(1,true) toSay(2,1,0)=16 toSay(2,0,0)=0");
    }

    // ---- promise 23

    private static void origin() {
        holds("promise 23: UNKNOWN, the FARM that HEARS", FIVE, "origin(6,0,NONE)=UNKNOWN origin(-1,0,NONE)=UNKNOWN origin(MOST,0,1)=UNKNOWN");
        holds("promise 23: UNKNOWN, the WORD", FIVE, "origin(0,5,NONE)=UNKNOWN origin(0,-1,NONE)=UNKNOWN origin(0,5,1)=UNKNOWN");
        holds("promise 23: UNKNOWN, a FARM but NONE", FIVE, "origin(0,0,6)=UNKNOWN origin(0,0,-2)=UNKNOWN origin(0,0,LEAST)=UNKNOWN "
            + "origin(0,0,MOST)=UNKNOWN origin(0,0,5)=0");
        holds("promise 23: NONE: how many pairs", FIVE, "origin(1,1,NONE)=9 origin(1,1,2)=8 origin(1,1,3)=30 origin(1,1,5)=30");
        holds("section 3: ORIGIN, none of UP", FIVE, "origin(5,0,NONE)=0 origin(5,0,1)=0 origin(5,0,5)=0 origin(0,0,0)=0 origin(1,1,4)=0");
        holds("section 3: ORIGIN, THE ESTUARY alone", ALONE, "origin(0,0,NONE)=0 origin(0,1,0)=0 origin(0,0,1)=UNKNOWN");
        holds("section 3: ORIGIN, by all WORDS of all FARMS", "b9 1;f0 1 2 0;f1 1 2 0;f2 1 2 0;f3 1 2 0;f4 1 2 0;f5 1 2 0;f6 1 2 0;f7 1 2 0;",
            "origin(0,0,NONE)=72 origin(0,0,8)=511 origin(0,1,NONE)=0 dam(1,true) origin(0,0,NONE)=9");
    }

    // ---- promise 24

    private static void privately() {
        holds("promise 24: UNKNOWN, bits of such", FIVE, "privately(64)=UNKNOWN privately(65)=UNKNOWN privately(-1)=UNKNOWN privately(LEAST)=UNKNOWN "
            + "privately(MOST)=UNKNOWN privately(63)=0");
        holds("promise 24: UNKNOWN, bits of such, nine FARMS", ROW, "privately(511)=0 privately(512)=UNKNOWN privately(256)=510 privately(-512)=UNKNOWN");
        holds("promise 24: UNKNOWN, bits of such, THE ESTUARY alone", ALONE, "privately(0)=0 privately(1)=0 privately(2)=UNKNOWN");
        holds("promise 24: UNKNOWN, bits of such, without a DALE", null, "privately(0)=0 privately(1)=UNKNOWN privately(-1)=UNKNOWN");
        holds("section 3: PRIVATE, a SET of none", FIVE, "privately(0)=62");
        holds("section 3: PRIVATE: but THE ESTUARY", FIVE, "privately(32)=62 privately(1)=0");
        holds("section 3: PRIVATE, DAMS stay as they are", ROW, "dam(1,true) privately(1)=508 privately(2)=2 privately(3)=0");
    }

    // ---- promise 25

    private static void dams() {
        holds("promise 25: UNKNOWN, a FARM", FIVE, "dams(6,0)=UNKNOWN dams(-1,0)=UNKNOWN dams(MOST,1)=UNKNOWN dams(LEAST,1)=UNKNOWN");
        holds("promise 25: UNKNOWN, bits of such", FIVE, "dams(5,64)=UNKNOWN dams(5,-1)=UNKNOWN dams(0,64)=UNKNOWN dams(5,LEAST)=UNKNOWN "
            + "dams(5,MOST)=UNKNOWN dams(5,63)=NONE");
        holds("promise 25: UNKNOWN, bits of such, nine FARMS", ROW, "dams(8,256)=0 dams(8,512)=UNKNOWN");
        holds("section 3: DAM, a SET of none", ROW, "dams(8,0)=0 dams(0,0)=0");
        holds("section 3: DAM, nobody of the SET HEARS it", ROW, "dams(4,496)=0 dams(0,511)=0 dams(1,510)=0");
        holds("section 3: DAM; NONE: by none", ROW, "dams(1,1)=NONE dams(8,128)=NONE dams(8,129)=NONE dams(8,255)=NONE dams(2,2)=NONE");
        holds("section 3: DAM, of like ones the least", ROW, "dams(8,1)=2 dams(8,2)=4 dams(8,64)=128 dams(8,65)=128 dams(2,1)=2");
        holds("section 3: DAM, in FROST, with FLOW 0", ROW, "frost(true) rain(0) dams(8,1)=2");
    }

    private static void damsBesides() {
        String is = "section 3: DAM, besides";
        holds(is + ", none is needed", ROW, "dam(3,true) dams(8,1)=0 dams(8,7)=0");
        holds(is + ", ahead of it one is", ROW, "dam(3,true) dams(8,8)=16 dams(8,9)=16 dams(3,1)=2");
        holds(is + ", where it is SAID it is of no use", ROW, "dam(8,true) dams(8,1)=2 dams(8,128)=NONE");
        holds(is + ", taken away again", ROW, "dam(3,true) dam(3,false) dams(8,1)=2");
        holds(is + ", done, then none is needed", ROW, "dams(8,1)=2 dam(1,true)=0 dams(8,1)=0 privately(1)=508");
    }

    // ---- promise 26

    private static void willHear() {
        holds("promise 26: UNKNOWN", FIVE, "willHear(6,0,0)=UNKNOWN willHear(-1,0,0)=UNKNOWN willHear(MOST,0,0)=UNKNOWN willHear(5,0,0)=0");
        holds("section 3: WILL HEAR, n HOURS (0 .. 100)", FIVE, "willHear(0,-1,0)=OUTSIDE willHear(0,101,0)=OUTSIDE willHear(0,LEAST,0)=OUTSIDE "
            + "willHear(0,MOST,1)=OUTSIDE willHear(0,0,0)=0 willHear(0,100,0)=0");
        holds("promise 26: OUTSIDE, what", FIVE, "willHear(0,0,-1)=OUTSIDE willHear(0,0,2)=OUTSIDE willHear(0,0,MOST)=OUTSIDE willHear(0,0,1)=NONE");
        holds("terms: UNKNOWN ahead of OUTSIDE, willHear", FIVE, "willHear(6,101,0)=UNKNOWN willHear(6,0,2)=UNKNOWN willHear(-1,-1,-1)=UNKNOWN");
        holds("terms: UNKNOWN ahead of OUTSIDE, willHear, without a DALE", null, "willHear(0,101,2)=UNKNOWN");
        holds("promise 26: 0 HOURS", "b3 4;f0 1 0 0;", "say(1,1) willHear(0,0,0)=0 willHear(0,0,1)=NONE willHear(0,1,0)=1 willHear(0,1,1)=1 hour(1) "
            + "willHear(0,0,0)=0 willHear(0,0,1)=1");
        holds("promise 26: the latest WORD (NONE)", "b3 4;f0 1 0 0;", "willHear(0,100,1)=NONE willHear(1,100,1)=NONE say(1,2) willHear(1,100,1)=NONE "
            + "willHear(0,100,1)=2");
        holds("section 3: WILL HEAR, the latest WORD then", "b3 9;f0 1 0 0;f1 1 0 0;", "say(2,1) say(1,2) willHear(0,1,1)=2 willHear(0,2,1)=1 "
            + "willHear(0,2,0)=2");
        holds("section 3: WILL HEAR, twelve in an HOUR", "b3 9;f0 1 0 0;", "11*say(1,0) say(1,2) willHear(0,1,0)=12 willHear(0,1,1)=2 willHear(0,100,0)=12");
        holds("section 3: WILL HEAR, not an HOUR ahead of it", "b2 1;f0 9 0 0;f1 9 0 0;", "frost(true) hour(6) frost(false) rain(1) say(2,0) "
            + "willHear(1,100,0)=0 rain(9) willHear(1,4,0)=1 willHear(1,3,0)=0 willHear(0,8,0)=0 willHear(0,9,0)=1");
    }

    private static void willHearAsItGoesOn() {
        String is = "section 3: WILL HEAR, all as it goes on";
        holds(is + " (FROST stays as it is)", "b3 9;f0 1 0 0;", "say(1,0) frost(true) willHear(0,100,0)=0 frost(false) willHear(0,1,0)=1");
        holds(is + " (FLOW gets less)", "b3 1;f0 2 0 0;", "say(1,0) willHear(0,100,0)=0 rain(2) willHear(0,3,0)=0 willHear(0,4,0)=1");
        holds(is + " (FLOW gets less: 7 to 6)", "b5 7;f0 1 1 1;f1 1 0 0;", "hour(4) say(2,0) willHear(0,2,1)=2 hour(1) willHear(0,1,1)=2 hour(1) "
            + "farm(0,4)=2 rain(7) hour(5) say(2,0) rain(7) willHear(0,2,1)=1");
        holds(is + ", DAMS too", ROW, "say(3,1) dam(2,true) willHear(2,100,0)=1 willHear(1,100,0)=0 willHear(0,100,0)=0");
        holds(is + ", as it then is", FIVE, "say(5,4) say(2,0) say(3,3) willHear(1,60,0)=3 willHear(1,60,1)=1 willHear(0,60,0)=3 willHear(0,60,1)=3 "
            + "hour(60) farm(1,5)=3 farm(1,4)=1 farm(0,5)=3 farm(0,4)=3");
    }

    // ---- promise 27

    private static void where() {
        holds("promise 27: UNKNOWN", ROW, "where(0,0,0)=UNKNOWN say(8,1) where(1,0,0)=UNKNOWN where(-1,0,0)=UNKNOWN where(MOST,0,0)=UNKNOWN "
            + "where(0,0,0)=8 where(0,0,1)=1");
        holds("promise 27: the last of twelve", ROW, "11*say(1,0) say(8,1) where(11,1,0)=7 where(11,1,1)=1 where(12,1,0)=UNKNOWN where(10,1,0)=NONE");
        holds("promise 27: WHERE (n 0 .. 100)", ROW, "say(8,1) where(0,-1,0)=OUTSIDE where(0,101,0)=OUTSIDE where(0,MOST,0)=OUTSIDE "
            + "where(0,LEAST,1)=OUTSIDE where(0,100,0)=NONE where(0,0,0)=8");
        holds("promise 27: OUTSIDE, what", ROW, "say(8,1) where(0,0,-1)=OUTSIDE where(0,0,2)=OUTSIDE where(0,0,MOST)=OUTSIDE where(0,0,1)=1");
        holds("terms: UNKNOWN ahead of OUTSIDE, where", ROW, "where(0,101,0)=UNKNOWN where(0,0,2)=UNKNOWN where(-1,-1,-1)=UNKNOWN");
        holds("section 3: WHERE; NONE: it is over", ROW, "say(2,1) where(0,1,0)=1 where(0,1,1)=1 where(0,2,0)=NONE where(0,2,1)=NONE");
        holds("section 3: WHERE; NONE: it is over, another is not", ROW, "say(1,0) say(8,1) where(0,1,0)=NONE where(0,1,1)=NONE where(1,1,0)=7");
        holds("section 3: WHERE; NONE: it is over at a DAM", ROW, "say(3,1) dam(1,true) where(0,1,0)=2 where(0,2,0)=NONE");
        holds("section 3: WHERE, what it is there", "b5 4;f0 9 0 0;f1 1 1 3;", "say(2,4) where(0,0,1)=4 where(0,1,1)=2 where(0,1,0)=1");
        holds("section 3: WHERE, n HOURS so: FROST stays", ROW, "say(2,1) frost(true) where(0,100,0)=2 where(0,100,1)=1");
        holds("section 3: WHERE, n HOURS so: FLOW gets less", "b2 1;f0 2 0 0;", "say(1,1) where(0,100,0)=1 rain(2) where(0,3,0)=1 where(0,4,0)=NONE");
        holds("section 3: WHERE, twelve go", ROW, "6*say(1,0) 6*say(8,1) where(6,7,0)=1 where(6,8,0)=NONE where(0,1,0)=NONE");
    }

    // ---- promise 28

    private static void dry() {
        holds("section 3: DRY, n dry days (0 .. 60)", null, "dry(-1,50)=OUTSIDE dry(61,50)=OUTSIDE dry(LEAST,50)=OUTSIDE dry(MOST,50)=OUTSIDE "
            + "dry(0,50)=1000000000 dry(60,100)=1000000000");
        holds("section 3: DRY, q of a hundred (0 .. 100)", null, "dry(1,-1)=OUTSIDE dry(1,101)=OUTSIDE dry(1,LEAST)=OUTSIDE dry(1,MOST)=OUTSIDE "
            + "dry(1,0)=0 dry(1,100)=1000000000 dry(1,1)=10000000 dry(1,99)=990000000");
        holds("section 3: DRY, no day", null, "dry(0,0)=1000000000 dry(0,100)=1000000000");
        holds("section 3: DRY, all wrong", null, "dry(-1,-1)=OUTSIDE dry(61,101)=OUTSIDE");
        holds("section 3: DRY, (cut) each", null, "dry(4,1)=10 dry(5,1)=0 dry(5,33)=3913539 dry(6,33)=1291467 dry(29,50)=1 dry(30,50)=0");
        holds("promise 28: with a DALE alike", ROW, "dry(2,50)=250000000 dry(61,0)=OUTSIDE");
    }
}
