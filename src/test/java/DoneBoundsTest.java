import java.lang.reflect.Field;

/** The boundary cases of section 2 and of promises 9 to 17, sentence by sentence. */
public final class DoneBoundsTest {
    private static final Check check = new Check("DoneBoundsTest");

    private static final String ONE = "b3 4;f0 1 0 0;";
    private static final String ROW = "b2 9;f0 1 0 0;f1 1 0 0;f2 1 0 0;f3 1 0 0;f4 1 0 0;f5 1 0 0;f6 1 0 0;f7 1 0 0;";

    public static void main(String[] args) throws ReflectiveOperationException {
        garbles();
        garblesTwice();
        talkBegins();
        anHour();
        comesTo();
        goesOn();
        contradicts();
        flowGetsLess();
        countsAtMost();
        hour();
        hoursAboveNineThousand();
        say();
        rain();
        frost();
        dam();
        smooth();
        hush();
        drift();
        driftDraws();
        undo();
        undoKeepsSixteen();
        undoOfEach();
        check.end();
    }

    private static void holds(String sentence, String dale, String calls) {
        Script.run(check, sentence, dale, calls);
    }

    // ---- section 2: a fall

    private static void garbles() {
        holds("section 2: SORT 0: not", "b5 4;f0 1 0 2;", "becomes(1,0,0)=0 becomes(1,0,4)=4 say(1,4) hour(1) farm(0,4)=4");
        String left = "section 2: SORT 1: what is left over of w and K by W";
        holds(left, "b5 4;f0 1 1 2;", "becomes(1,0,2)=4 becomes(1,0,3)=0 becomes(1,0,4)=1 say(1,2) say(1,3) say(1,4) hour(1) "
            + "logged(2,1)=4 logged(1,1)=0 logged(0,1)=1");
        holds(left + ", K 0", "b5 4;f0 1 1 0;", "becomes(1,0,0)=0 becomes(1,0,4)=4");
        holds(left + ", the last K", "b5 4;f0 1 1 4;", "becomes(1,0,0)=4 becomes(1,0,1)=0 becomes(1,0,4)=3");
        holds(left + ", two WORDS", "b2 4;f0 1 1 1;", "becomes(1,0,0)=1 becomes(1,0,1)=0");
        String above = "section 2: SORT 2: to K, if it is above K";
        holds(above, "b5 4;f0 1 2 2;", "becomes(1,0,1)=1 becomes(1,0,2)=2 becomes(1,0,3)=2 becomes(1,0,4)=2 say(1,1) say(1,3) hour(1) "
            + "logged(1,1)=1 logged(0,1)=2");
        holds(above + ", K 0", "b5 4;f0 1 2 0;", "becomes(1,0,0)=0 becomes(1,0,1)=0 becomes(1,0,4)=0");
        holds(above + ", the last K", "b5 4;f0 1 2 4;", "becomes(1,0,0)=0 becomes(1,0,4)=4");
        holds("section 2: SORT 3: to W, less 1, less w", "b5 4;f0 1 3 1;", "becomes(1,0,0)=4 becomes(1,0,2)=2 becomes(1,0,4)=0 say(1,4) hour(1) "
            + "farm(0,4)=0");
        String below = "section 2: SORT 4: to K, if it is below K";
        holds(below, "b5 4;f0 1 4 2;", "becomes(1,0,0)=2 becomes(1,0,1)=2 becomes(1,0,2)=2 becomes(1,0,3)=3 say(1,1) say(1,3) hour(1) "
            + "logged(1,1)=2 logged(0,1)=3");
        holds(below + ", K 0", "b5 4;f0 1 4 0;", "becomes(1,0,0)=0 becomes(1,0,1)=1");
        holds(below + ", the last K", "b5 4;f0 1 4 4;", "becomes(1,0,0)=4 becomes(1,0,3)=4 becomes(1,0,4)=4");
    }

    private static void garblesTwice() {
        String twice = "section 2: with FLOW of 7 or more it does so twice";
        holds(twice, "b5 6;f0 1 1 2;", "say(1,4) hour(1) farm(0,4)=1 rain(7) say(1,4) hour(1) farm(0,4)=3 rain(9) say(1,4) hour(1) farm(0,4)=3 "
            + "rain(6) say(1,4) hour(1) farm(0,4)=1");
        holds(twice + ", laughter", "b5 7;f0 1 3 0;", "say(1,4) hour(1) farm(0,4)=4 rain(6) say(1,4) hour(1) farm(0,4)=0");
        holds(twice + ", as tried", "b5 6;f0 1 1 2;", "becomes(1,0,4)=1 rain(7) becomes(1,0,4)=3 rain(9) becomes(1,0,4)=3");
        String now = "section 2: GARBLED by FLOW now";
        holds(now + ", not as it was SAID", "b5 1;f0 1 1 2;", "say(1,0) hour(3)=1 rain(7) hour(1)=0 farm(0,4)=4");
        holds(now + ", not as it was SAID", "b5 7;f0 9 1 2;", "say(1,0) hour(5)=1 rain(6) hour(1)=0 farm(0,4)=2");
        holds(now + ", ahead of its getting less", "b5 7;f0 1 1 2;", "hour(5) say(1,0) hour(1) farm(0,4)=4 told(4)=6 say(1,0) hour(1) farm(0,4)=2");
    }

    // ---- section 2: talk

    private static void talkBegins() {
        holds("section 2: TALK (12 at most go at once)", ONE, "11*say(1,0) say(1,0)=12 say(1,0)=FULL told(7)=12 talk(12,0)=UNKNOWN");
        holds("section 2: it has 4 times D to go", "b2 1;f0 9 0 0;f0 1 0 0;", "say(1,0) say(2,0) talk(0,2)=36 talk(1,2)=4");
        holds("section 2: the FARM itself HEARS nothing by it", ROW, "say(2,1) farm(2,4)=NONE farm(2,5)=0 hour(3) farm(2,4)=NONE farm(2,5)=0 "
            + "farm(1,5)=1 told(13)=2");
    }

    private static void anHour() {
        String frost = "section 2: AN HOUR: if there is no FROST";
        holds(frost, "b2 9;f0 1 0 0;", "say(1,0) frost(true) hour(1)=1 talk(0,2)=4 hour(60)=1 talk(0,2)=4 told(13)=0 told(3)=61");
        holds(frost + ", and then FLOW", "b2 9;f0 1 0 0;", "frost(true) hour(6) told(4)=8 hour(60) told(4)=0");
        String flow = "section 2: AN HOUR: FLOW is 1 or more";
        holds(flow + ", 0", "b2 0;f0 1 0 0;", "say(1,0) hour(60)=1 talk(0,2)=4 told(3)=60");
        holds(flow + ", 1", "b2 1;f0 1 0 0;", "say(1,0) hour(1)=1 talk(0,2)=3");
        holds("section 2: TALK by TALK, as they were SAID", "b9 9;f0 1 0 0;f0 1 0 0;", "say(2,7) say(1,3) say(2,5) hour(1)=0 logged(2,1)=7 "
            + "logged(1,1)=3 logged(0,1)=5 farm(0,4)=5");
        holds("section 2: TALK by TALK, as they were SAID, whoever is ahead", ROW, "say(3,0) say(2,1) hour(1) logged(1,1)=0 logged(0,1)=1 hour(1) "
            + "logged(1,0)=1 logged(0,0)=0");
    }

    private static void comesTo() {
        String is = "section 2: if that is 0 or less, it comes to T";
        holds(is + ", 1", "b2 3;f0 1 0 0;", "say(1,0) hour(1)=1 talk(0,2)=1 farm(0,5)=0 hour(1)=0 farm(0,5)=1");
        holds(is + ", 0", "b2 4;f0 1 0 0;", "say(1,0) hour(1)=0 farm(0,5)=1");
        holds(is + ", less", "b2 9;f0 1 0 0;", "say(1,0) hour(1)=0 farm(0,5)=1");
        holds("section 2: T HEARS it", "b3 4;f0 1 1 1;", "say(1,2) hour(1) farm(0,4)=0 farm(0,5)=1 logged(0,0)=0 logged(0,1)=0 logged(0,2)=0 "
            + "logged(0,3)=1");
        holds("section 2: in what HOUR", "b3 4;f0 1 0 0;", "hour(4) say(1,2) hour(1) logged(0,2)=4 hour(4) say(1,2) rain(4) hour(1) logged(0,2)=9");
        holds("section 2: where it was SAID", ROW, "say(8,1) hour(8) logged(0,3)=8 logged(0,0)=0 logged(7,3)=8 logged(7,0)=7");
    }

    private static void goesOn() {
        holds("section 2: if T is THE ESTUARY it is over", "b2 4;f0 1 0 0;", "say(1,0) hour(1)=0 talk(0,0)=UNKNOWN hour(60)=0 farm(0,5)=1");
        holds("section 2: if T is DAMMED it is over", ROW, "dam(2,true) say(3,1) hour(1)=0 farm(2,5)=1 farm(2,4)=1 hour(9) farm(1,5)=0 farm(0,5)=0");
        holds("section 2: SAID at a DAMMED FARM it goes", ROW, "dam(2,true) say(2,1)=1 hour(1)=1 farm(1,5)=1 hour(1)=0 farm(0,5)=1");
        holds("section 2: DAMMED when it comes, not when it is SAID", ROW, "dam(1,true) say(3,1) hour(1) dam(1,false) hour(1)=1 hour(1)=0 farm(0,5)=1");
        holds("section 2: a DAM behind it does not stop it", ROW, "say(3,1) hour(1) dam(2,true) hour(1)=1 farm(1,5)=1");
        String over = "section 2: 4 times T's D to go (what it had over is lost)";
        holds(over, "b2 9;f0 2 0 0;f1 1 0 0;", "say(2,1) hour(1)=1 talk(0,0)=1 talk(0,1)=1 talk(0,2)=8 talk(0,3)=2");
        holds(over, "b2 9;f0 9 0 0;f1 1 0 0;", "say(2,1) hour(1) talk(0,2)=36 hour(3) talk(0,2)=9 hour(1)=0");
        holds("section 2: one FARM an HOUR", ROW, "say(8,0) hour(7)=1 farm(1,5)=1 farm(0,5)=0 talk(0,1)=1 talk(0,2)=4 hour(1)=0");
    }

    private static void contradicts() {
        String is = "section 2: these CONTRADICT";
        String three = "b3 4;f0 1 0 0;f0 1 3 0;f1 1 0 0;";
        holds(is + ", two unlike", three, "say(1,0) say(1,1) hour(1) told(8)=1");
        holds(is + ", one alone does not", three, "say(1,0) hour(1) told(8)=0");
        holds(is + ", two alike do not", three, "say(1,2) say(1,2) hour(1) told(8)=0 farm(0,5)=2");
        holds(is + ", as they are HEARD", three, "say(1,0) say(2,2) hour(1) told(8)=0 say(1,0) say(2,0) hour(1) told(8)=1");
        holds(is + ", in an HOUR", three, "say(1,0) hour(1) say(1,1) hour(1) told(8)=0");
        holds(is + ", in an HOUR, not in a call", three, "say(3,0) say(1,1) hour(2) farm(0,5)=2 told(8)=0");
        holds(is + ", with one between", three, "say(1,0) say(1,1) say(1,0) hour(1) told(8)=1");
        holds(is + ", with another FARM's between", three, "say(1,0) say(3,0) say(1,1) hour(1) told(8)=1");
        holds(is + ", the last alone", three, "say(1,0) say(1,0) say(1,1) hour(1) told(8)=1");
        holds(is + ", counted once for that FARM and HOUR", three, "say(1,0) say(1,1) say(1,2) say(1,0) hour(1) told(8)=1");
        holds(is + ", twelve of them", three, "6*say(1,0) 6*say(1,1) hour(1) told(8)=1");
        holds(is + ", for each FARM", three, "say(1,0) say(1,1) say(3,0) say(3,1) hour(1) told(8)=2");
        holds(is + ", for each HOUR", three, "say(3,0) say(3,1) hour(1) told(8)=1 hour(1) told(8)=2");
        holds(is + ", not at two FARMS", three, "say(1,0) say(3,1) hour(1) told(8)=0");
        holds(is + ", at a DAM", three, "dam(1,true) say(3,0) say(3,1) hour(1)=0 told(8)=1 hour(1) told(8)=1");
        holds(is + ", undone", three, "say(1,0) say(1,1) hour(1) told(8)=1 undo() told(8)=0");
    }

    private static void flowGetsLess() {
        String is = "section 2: FLOW is 1 less in HOURS that leave over 5 by 6";
        holds(is, "b2 9;", "hour(5) told(4)=9 hour(1) told(4)=8 hour(5) told(4)=8 hour(1) told(4)=7");
        holds(is + ", in one call", "b2 9;", "hour(12) told(4)=7 hour(42) told(4)=0");
        holds(is + " (0 at least)", "b2 0;", "hour(6) told(4)=0 hour(60) told(4)=0");
        holds(is + " (0 at least)", "b2 1;", "hour(5) told(4)=1 hour(1) told(4)=0 hour(6) told(4)=0");
        holds(is + ", then: behind the TALK", "b2 4;f0 1 0 0;", "hour(5) say(1,1) hour(1)=0 told(4)=3");
        holds(is + ", then: behind the TALK", "b2 1;f0 1 0 0;", "hour(2) say(1,1) hour(3)=1 talk(0,2)=1 hour(1)=0 told(4)=0 farm(0,5)=1");
        holds(is + ", with RAIN ahead", "b2 0;", "hour(5) rain(9) hour(1) told(4)=8 rain(9) hour(5) told(4)=9");
        holds("section 2: HOURS are one more", "b2 0;", "told(3)=0 hour(1) told(3)=1 hour(60) told(3)=61");
    }

    // No run of 512 calls can hear so often, so the counts are set from outside.
    private static void countsAtMost() throws ReflectiveOperationException {
        BeckTalk x = Check.with(ONE);
        Object now = part(x, "now");
        ((int[]) part(now, "heard"))[0] = 999998;
        set(now, "contradicted", 999998);
        tellUnlike(x);
        check.due("section 2: how many it HEARD (999999 at most)", x.farm(0, 5), 999999);
        check.due("section 2: CONTRADICT (999999 at most)", x.told(8), 999999);
        tellUnlike(x);
        check.due("section 2: how many it HEARD, 999999 still", x.farm(0, 5), 999999);
        check.due("section 2: CONTRADICT, 999999 still", x.told(8), 999999);
        x.say(1, 0);
        x.say(1, 0);
        check.due("section 3: WILL HEAR counts these HOURS alone", x.willHear(0, 9, 0), 2);
        check.due("section 3: LOUDEST at 999999", x.told(9), 0);
    }

    private static void tellUnlike(BeckTalk x) {
        x.say(1, 0);
        x.say(1, 1);
        x.hour(1);
    }

    private static Object part(Object of, String name) throws ReflectiveOperationException {
        Field field = of.getClass().getDeclaredField(name);
        field.setAccessible(true);
        return field.get(of);
    }

    private static void set(Object of, String name, int value) throws ReflectiveOperationException {
        Field field = of.getClass().getDeclaredField(name);
        field.setAccessible(true);
        field.setInt(of, value);
    }

    // ---- promise 9

    private static void hour() {
        holds("promise 9: n HOURS (1 .. 60)", ONE, "hour(0)=OUTSIDE hour(-1)=OUTSIDE hour(61)=OUTSIDE hour(LEAST)=OUTSIDE hour(MOST)=OUTSIDE "
            + "told(3)=0 told(16)=0 hour(1)=0 told(3)=1 hour(60)=0 told(3)=61 told(16)=2");
        holds("promise 9: NOT: no DALE", null, "hour(1)=NOT hour(60)=NOT");
        holds("promise 9: THE ESTUARY alone", "b2 9;", "hour(60)=0 told(3)=60");
        holds("terms: OUTSIDE ahead of NOT, hour", null, "hour(0)=OUTSIDE hour(61)=OUTSIDE");
        holds("promise 9: TALKS that go", "b2 9;f0 1 0 0;f0 9 0 0;", "say(1,0) say(2,0) hour(1)=1 hour(3)=0");
    }

    private static void hoursAboveNineThousand() {
        holds("promise 9: FULL: HOURS are above 9000", ONE, "150*hour(60) told(3)=9000 hour(1)=0 told(3)=9001 hour(1)=FULL hour(60)=FULL "
            + "told(3)=9001 drift(1)=FULL drift(60)=FULL");
        holds("promise 9: at 9000 all sixty go by", ONE, "150*hour(60) hour(60)=0 told(3)=9060 hour(1)=FULL undo()=15 told(3)=9000 hour(1)=0");
        holds("promise 9: below 9000", ONE, "149*hour(60) hour(59) told(3)=8999 hour(60)=0 told(3)=9059 hour(1)=FULL");
        holds("terms: OUTSIDE ahead of FULL, hour and drift", ONE, "150*hour(60) hour(1) hour(0)=OUTSIDE hour(61)=OUTSIDE drift(0)=OUTSIDE "
            + "drift(61)=OUTSIDE");
        holds("promise 16: FULL: HOURS are above 9000", ONE, "150*hour(60) seed(3) drift(1) told(3)=9001 drift(1)=FULL hour(1)=FULL told(3)=9001");
        holds("promise 9: above 9000 all else goes", ONE, "150*hour(60) hour(1) say(1,1)=1 rain(9) frost(true)=0 dam(1,true)=0 smooth(1)=0 "
            + "hush(0)=0 hour(1)=FULL undo()=15 told(7)=1 where(0,100,0)=1 willHear(0,100,0)=0 frost(false)=1 willHear(0,100,0)=1 where(0,100,0)=NONE");
        holds("promise 9: another DALE begins at 0", ONE, "150*hour(60) hour(1) hour(1)=FULL <b2_1;> dale()=1 hour(1)=0 told(3)=1");
    }

    // ---- promise 10

    private static void say() {
        holds("promise 10: UNKNOWN, a FARM", ROW, "say(8,0)=1 say(9,0)=UNKNOWN say(-1,0)=UNKNOWN say(MOST,0)=UNKNOWN say(LEAST,0)=UNKNOWN told(7)=1");
        holds("promise 10: UNKNOWN, a WORD", ROW, "say(1,1)=1 say(1,2)=UNKNOWN say(1,-1)=UNKNOWN say(1,MOST)=UNKNOWN say(1,LEAST)=UNKNOWN told(16)=1");
        holds("promise 10: NOT: at THE ESTUARY", ROW, "say(0,0)=NOT say(0,1)=NOT told(7)=0 told(16)=0");
        holds("promise 10: FULL: 12 go", ROW, "11*say(8,0) say(8,1)=12 say(8,0)=FULL say(1,1)=FULL told(7)=12 told(16)=12");
        holds("promise 10: 12 go, and one is over", ROW, "say(1,0) 11*say(8,0) say(8,1)=FULL hour(1)=11 say(8,1)=12 say(8,1)=FULL talk(11,0)=1 "
            + "hush(0)=11 say(1,0)=12");
        holds("terms: UNKNOWN ahead of NOT, say", ROW, "say(0,2)=UNKNOWN say(0,-1)=UNKNOWN");
        holds("terms: UNKNOWN ahead of FULL, say", ROW, "12*say(8,0) say(9,0)=UNKNOWN say(8,2)=UNKNOWN");
        holds("terms: NOT ahead of FULL, say", ROW, "12*say(8,0) say(0,0)=NOT");
        holds("terms: UNKNOWN, no FARM without a DALE", null, "say(0,0)=UNKNOWN say(1,0)=UNKNOWN");
    }

    // ---- promises 11, 12

    private static void rain() {
        holds("promise 11: RAIN (0 .. 9)", ONE, "rain(-1)=OUTSIDE rain(10)=OUTSIDE rain(MOST)=OUTSIDE rain(LEAST)=OUTSIDE told(4)=4 rain(0)=4 "
            + "told(4)=0 rain(9)=0 told(4)=9 rain(9)=9 told(16)=3");
        holds("promise 11: NOT: no DALE", null, "rain(0)=NOT rain(9)=NOT told(4)=0");
        holds("terms: OUTSIDE ahead of NOT, rain", null, "rain(-1)=OUTSIDE rain(10)=OUTSIDE");
        holds("promise 11: it does not end FROST", ONE, "frost(true)=0 rain(9)=4 told(5)=1");
    }

    private static void frost() {
        holds("promise 12: 1 there was, 0 not", ONE, "frost(false)=0 told(5)=0 frost(true)=0 told(5)=1 frost(true)=1 told(5)=1 frost(false)=1 "
            + "told(5)=0 told(16)=4");
        holds("promise 12: NOT: no DALE", null, "frost(true)=NOT frost(false)=NOT told(5)=0");
    }

    // ---- promises 13 to 15

    private static void dam() {
        holds("promise 13: 1 it was, 0 not", ROW, "dam(8,false)=0 dam(8,true)=0 told(6)=256 dam(8,true)=1 told(6)=256 dam(8,false)=1 told(6)=0 "
            + "told(16)=4");
        holds("promise 13: UNKNOWN", ROW, "dam(9,true)=UNKNOWN dam(-1,true)=UNKNOWN dam(MOST,false)=UNKNOWN dam(LEAST,true)=UNKNOWN dam(32,true)=UNKNOWN "
            + "told(6)=0 told(16)=0");
        holds("promise 13: UNKNOWN, a bit that another DALE had", ROW, "dam(8,true)=0 <b2_1;f0_1_0_0;> dale()=2 dam(8,true)=UNKNOWN dam(2,true)=UNKNOWN "
            + "told(6)=0");
        holds("promise 13: NOT: THE ESTUARY", ROW, "dam(0,true)=NOT dam(0,false)=NOT told(6)=0");
        holds("terms: UNKNOWN, no ESTUARY without a DALE", null, "dam(0,true)=UNKNOWN smooth(0)=UNKNOWN");
    }

    private static void smooth() {
        holds("promise 14: the SORT that was", "b3 4;f0 1 4 2;f0 1 0 0;", "smooth(1)=4 smooth(1)=0 smooth(2)=0 told(16)=3");
        holds("promise 14: UNKNOWN", ROW, "smooth(8)=0 smooth(9)=UNKNOWN smooth(-1)=UNKNOWN smooth(MOST)=UNKNOWN smooth(LEAST)=UNKNOWN told(16)=1");
        holds("promise 14: NOT: THE ESTUARY", ROW, "smooth(0)=NOT told(16)=0");
        holds("section 2: SORT 0 from now on", "b3 4;f0 1 4 2;", "say(1,0) smooth(1)=4 hour(1) farm(0,4)=0 rain(9) say(1,1) hour(1) farm(0,4)=1");
    }

    private static void hush() {
        holds("promise 15: UNKNOWN", ROW, "hush(0)=UNKNOWN say(1,0) hush(1)=UNKNOWN hush(-1)=UNKNOWN hush(MOST)=UNKNOWN hush(LEAST)=UNKNOWN told(7)=1 "
            + "told(16)=1");
        holds("promise 15: the last of twelve", ROW, "11*say(1,0) say(2,1) hush(12)=UNKNOWN hush(11)=11 talk(10,1)=1 talk(11,1)=UNKNOWN");
        holds("promise 15: the first of twelve", ROW, "say(2,1) 11*say(1,0) hush(0)=11 talk(0,1)=1 talk(10,1)=1 hush(11)=UNKNOWN");
        holds("promise 15: one between", ROW, "say(3,0) say(4,1) say(5,0) hush(1)=2 talk(0,1)=3 talk(1,1)=5 talk(1,0)=0 talk(1,3)=5");
        holds("section 2: HUSHED: it is over", ROW, "say(1,0) hush(0)=0 hour(9) farm(0,5)=0 hush(0)=UNKNOWN");
    }

    // ---- promise 16

    private static void drift() {
        holds("promise 16: n HOURS (1 .. 60)", ONE, "drift(0)=OUTSIDE drift(-1)=OUTSIDE drift(61)=OUTSIDE drift(LEAST)=OUTSIDE drift(MOST)=OUTSIDE "
            + "told(3)=0 seed(1)=0 drift(1)=0 told(3)=1 drift(60) told(3)=61 told(16)=2");
        holds("promise 16: NOT: no DALE", null, "drift(1)=NOT drift(60)=NOT seed(0)=0");
        holds("terms: OUTSIDE ahead of NOT, drift", null, "drift(0)=OUTSIDE drift(61)=OUTSIDE seed(0)=0");
    }

    // The draws of a seed are worked out by hand: seed 12 gives 357293397, 1937462122, 753467483, which
    // are 1 of 5, then 3 of 5 (or of 10), then 2 of 5.
    private static void driftDraws() {
        String five = "b5 0;f0 1 0 0;f0 1 0 0;f0 1 0 0;f0 1 0 0;f0 1 0 0;";
        String is = "section 3: ahead of each a DRAW of 5: ";
        holds(is + "on 0 FLOW is a DRAW of 10", five, "drift(1)=0 told(4)=8 seed(0)=1406932606");
        holds(is + "on 0 FLOW is a DRAW of 10, the least", "b5 9;", "seed(13) drift(1)=0 told(4)=3 seed(0)=907931091");
        holds(is + "on 1 a DRAW of FARMS, and 1, and of WORDS", five, "seed(12) drift(1)=1 talk(0,1)=4 talk(0,0)=2 talk(0,3)=4 talk(0,2)=4 "
            + "seed(0)=753467483");
        holds(is + "on 1, the first FARM", five, "seed(6) drift(1)=1 talk(0,1)=1 talk(0,0)=2 seed(0)=704025629");
        holds(is + "on 1, the last FARM", five, "seed(11) drift(1)=1 talk(0,1)=5 talk(0,0)=1 seed(0)=745227174");
        holds(is + "on 1, one FARM", "b9 0;f0 1 0 0;", "seed(12) drift(1)=1 talk(0,1)=1 talk(0,0)=4 seed(0)=753467483");
        holds(is + "on 1, if there are FARMS but THE ESTUARY", "b9 5;", "seed(12) drift(1)=0 told(7)=0 told(4)=5 told(5)=0 seed(0)=357293397");
        holds(is + "on 1, if it can be: eleven go", five, "11*say(1,0) seed(12) drift(1)=12 talk(11,1)=4 talk(11,0)=2 seed(0)=753467483");
        holds(is + "on 1, if it can be: twelve go", five, "12*say(1,0) seed(12) drift(1)=12 talk(11,1)=1 talk(11,0)=0 seed(0)=753467483");
        holds(is + "on 1, it goes in that HOUR", "b5 4;f0 1 0 0;", "seed(12) drift(1)=0 farm(0,5)=1 farm(0,4)=2 logged(0,2)=0");
        holds(is + "on 2 FROST is, if it was not", five, "seed(3) drift(1)=0 told(5)=1 seed(0)=1163074432");
        holds(is + "on 2 FROST is, else not", five, "frost(true) seed(3) drift(1)=0 told(5)=0 seed(0)=1163074432");
        holds(is + "on 2 it is FROST in that HOUR", "b5 4;f0 1 0 0;", "say(1,0) seed(3) drift(1)=1 talk(0,2)=4");
        holds(is + "on 3 nothing", five, "seed(1) drift(1)=0 told(4)=0 told(5)=0 told(7)=0 seed(0)=1103527590");
        holds(is + "on 4 nothing", five, "seed(7) drift(1)=0 told(4)=0 told(5)=0 told(7)=0 seed(0)=1282168116");
        holds(is + "THE SEED at its most", five, "seed(MOST) drift(1)=0 seed(0)=1043980748");
        holds("promise 16: n HOURS, one call to be undone", five, "seed(12) drift(60) told(16)=1 undo()=0 told(3)=0 told(7)=0");
    }

    // ---- promise 17

    private static void undo() {
        holds("promise 17: NOT: none", ONE, "undo()=NOT rain(1) undo()=0 undo()=NOT");
        holds("promise 17: NOT: none, without a DALE", null, "undo()=NOT");
        holds("promise 17: how many more can be", ONE, "rain(1) rain(2) rain(3) undo()=2 told(4)=2 undo()=1 told(4)=1 undo()=0 told(4)=4 undo()=NOT");
        holds("section 3: that was not refused", ONE, "rain(1) rain(10)=OUTSIDE say(0,0)=NOT hour(61)=OUTSIDE dam(0,true)=NOT smooth(9)=UNKNOWN "
            + "hush(0)=UNKNOWN drift(0)=OUTSIDE told(16)=1 undo()=0 told(4)=4");
        holds("section 3: that was not refused, though nothing changed by it", ONE, "rain(4)=4 frost(false)=0 dam(1,false)=0 smooth(1)=0 told(16)=4 "
            + "undo()=3 undo()=2 undo()=1 undo()=0");
        holds("section 3: none but these", ONE, "feed(32) see(0,0) write(0,0) tear() seed(4) fault() down(1) willHear(0,9,0) dry(1,1) judge() told(16)=0 "
            + "undo()=NOT");
        holds("section 3: what is undone is not done again", ONE, "rain(1) rain(2) undo()=1 rain(7) told(16)=2 undo()=1 told(4)=1 undo()=0 told(4)=4");
        holds("section 3: all of section 2, THE TEXT, SEEN and BOOK are none of it", ONE, "rain(1) feed(98) see(0,1) write(0,1) undo()=0 told(2)=1 "
            + "told(14)=1 told(15)=1 judge()=0");
    }

    private static void undoKeepsSixteen() {
        String is = "section 3: 16 at most are kept, the oldest are lost";
        String sixteen = "16*undo() told(16)=0 undo()=NOT ";
        holds(is + ", 15", ONE, "rain(1) rain(2) 13*rain(3) told(16)=15 14*undo() undo()=0 told(4)=4 undo()=NOT");
        holds(is + ", 16", ONE, "rain(1) rain(2) 14*rain(3) told(16)=16 15*undo() undo()=0 told(4)=4 undo()=NOT");
        holds(is + ", 17", ONE, "rain(1) rain(2) 15*rain(3) told(16)=16 " + sixteen + "told(4)=1");
        holds(is + ", 18", ONE, "rain(1) rain(2) 16*rain(3) told(16)=16 " + sixteen + "told(4)=2");
        holds(is + ", 40", ONE, "20*rain(1) 4*rain(2) 16*rain(3) told(16)=16 " + sixteen + "told(4)=2");
        holds(is + ", and some more", ONE, "20*rain(1) 8*undo() told(16)=8 10*rain(2) told(16)=16 10*undo() told(16)=6 told(4)=1 6*undo() undo()=NOT "
            + "told(4)=1");
    }

    private static void undoOfEach() {
        String is = "section 3: UNDONE, all of section 2 is as ahead of it: ";
        String dale = "b3 4;f0 1 1 1;f1 2 3 0;";
        String ahead = "say(2,0) say(1,1) hour(1)=1 keep(0) ";
        String as = " undo()=0 told(3)=1 told(4)=4 told(5)=0 told(6)=0 told(7)=1 told(8)=0 told(13)=1 farm(0,4)=2 farm(0,5)=1 farm(1,2)=1 "
            + "talk(0,0)=0 talk(0,1)=2 talk(0,2)=4 talk(0,3)=2 logged(0,1)=2 logged(1,1)=NONE";
        holds(is + "hour()", dale, ahead + "hour(60)=0 told(13)=3 farm(0,5)=2" + as);
        holds(is + "say()", dale, ahead + "say(1,2)=2" + as);
        holds(is + "rain()", dale, ahead + "rain(9)=4" + as);
        holds(is + "frost()", dale, ahead + "frost(true)=0" + as);
        holds(is + "dam()", dale, ahead + "dam(1,true)=0" + as);
        holds(is + "smooth()", dale, ahead + "smooth(1)=1" + as);
        holds(is + "hush()", dale, ahead + "hush(0)=0" + as);
        holds(is + "drift()", dale, ahead + "drift(60)" + as);
        holds(is + "hour(), which CONTRADICTED", dale, ahead + "say(1,0) say(1,1) hour(1) told(8)=1 undo()=2 told(8)=0 told(7)=3");
        holds("section 3: UNDONE, THE SEED stays", dale, "seed(12) drift(1) undo()=0 seed(5)=753467483 rain(1) seed(6) undo()=0 seed(0)=6");
    }
}
