/**
 * Each refusal of each promise, alone, in objects that have much to lose: what is refused changes
 * nothing (Script looks at that), and of several refusals the first in their order is answered.
 */
public final class RefusedTest {
    private static final Check check = new Check("RefusedTest");

    // Talk on its way and heard, weather, dams, images, something seen, written, fed and to be undone.
    private static final String MUCH = "say(5,4) say(2,0) say(4,0) hour(2) seed(12) keep(1) dam(3,true) smooth(2) frost(true) rain(8) see(4,1) see(0,2) "
        + "write(1,4) write(0,NONE) feed(98) feed(50) ";

    private static final String WRONG_ANYWHERE = "feed(-1)=OUTSIDE feed(256)=OUTSIDE told(-1)=OUTSIDE told(17)=OUTSIDE logged(0,-1)=OUTSIDE logged(0,4)=OUTSIDE "
        + "hour(0)=OUTSIDE hour(61)=OUTSIDE rain(-1)=OUTSIDE rain(10)=OUTSIDE drift(0)=OUTSIDE drift(61)=OUTSIDE dry(-1,0)=OUTSIDE dry(61,0)=OUTSIDE "
        + "dry(0,-1)=OUTSIDE dry(0,101)=OUTSIDE falls(-1)=OUTSIDE falls(2)=OUTSIDE seed(-1)=OUTSIDE keep(-1)=UNKNOWN keep(2)=UNKNOWN goBack(-1)=UNKNOWN "
        + "goBack(2)=UNKNOWN ";

    private static final String WITHOUT_A_DALE = "farm(0,0)=UNKNOWN talk(0,0)=UNKNOWN hour(1)=NOT say(0,0)=UNKNOWN say(1,0)=UNKNOWN rain(0)=NOT frost(true)=NOT "
        + "frost(false)=NOT dam(0,true)=UNKNOWN dam(1,false)=UNKNOWN smooth(0)=UNKNOWN hush(0)=UNKNOWN drift(1)=NOT undo()=NOT down(0)=UNKNOWN up(0)=UNKNOWN "
        + "becomes(0,0,0)=UNKNOWN takes(0,0)=UNKNOWN toSay(0,0,0)=UNKNOWN origin(0,0,NONE)=UNKNOWN privately(1)=UNKNOWN dams(0,0)=UNKNOWN "
        + "willHear(0,0,0)=UNKNOWN where(0,0,0)=UNKNOWN see(0,0)=UNKNOWN write(0,NONE)=UNKNOWN ";

    // Of six farms and five words.
    private static final String UNKNOWN_OF_FIVE = "farm(6,0)=UNKNOWN farm(-1,6)=UNKNOWN talk(12,0)=UNKNOWN talk(-1,4)=UNKNOWN say(6,0)=UNKNOWN say(-1,0)=UNKNOWN "
        + "say(1,5)=UNKNOWN say(0,-1)=UNKNOWN dam(6,true)=UNKNOWN dam(-1,false)=UNKNOWN smooth(6)=UNKNOWN smooth(-1)=UNKNOWN hush(12)=UNKNOWN hush(-1)=UNKNOWN "
        + "down(6)=UNKNOWN down(-1)=UNKNOWN up(6)=UNKNOWN up(-1)=UNKNOWN becomes(6,0,0)=UNKNOWN becomes(1,-1,0)=UNKNOWN becomes(1,0,5)=UNKNOWN "
        + "takes(6,0)=UNKNOWN takes(1,-1)=UNKNOWN toSay(6,0,0)=UNKNOWN toSay(1,-1,0)=UNKNOWN toSay(1,0,5)=UNKNOWN origin(6,0,1)=UNKNOWN "
        + "origin(0,5,1)=UNKNOWN origin(0,0,6)=UNKNOWN origin(0,0,-2)=UNKNOWN privately(64)=UNKNOWN privately(-1)=UNKNOWN dams(6,0)=UNKNOWN "
        + "dams(1,64)=UNKNOWN dams(1,-1)=UNKNOWN willHear(6,101,2)=UNKNOWN willHear(-1,0,0)=UNKNOWN where(12,101,2)=UNKNOWN where(-1,0,0)=UNKNOWN "
        + "see(5,0)=UNKNOWN see(0,-1)=UNKNOWN write(6,0)=UNKNOWN write(0,5)=UNKNOWN write(0,-2)=UNKNOWN ";

    private static final String WRONG_OF_FIVE = "farm(0,6)=OUTSIDE farm(0,-1)=OUTSIDE talk(0,4)=OUTSIDE talk(0,-1)=OUTSIDE willHear(0,101,0)=OUTSIDE "
        + "willHear(0,-1,0)=OUTSIDE willHear(0,0,2)=OUTSIDE willHear(0,0,-1)=OUTSIDE where(0,101,0)=OUTSIDE where(0,-1,0)=OUTSIDE where(0,0,2)=OUTSIDE "
        + "where(0,0,-1)=OUTSIDE say(0,0)=NOT dam(0,true)=NOT dam(0,false)=NOT smooth(0)=NOT ";

    public static void main(String[] args) {
        each("without a dale", null, "", WRONG_ANYWHERE + WITHOUT_A_DALE + "goBack(0)=NOT goBack(1)=NOT");
        each("without a dale, an image", null, "seed(5) keep(0) seed(6) feed(98) ", WRONG_ANYWHERE + WITHOUT_A_DALE + "goBack(1)=NOT");
        each("a dale no more", Check.FIVE, MUCH + "dale() dale() ", WRONG_ANYWHERE + WITHOUT_A_DALE + "goBack(0)=NOT goBack(1)=NOT");
        each("much", Check.FIVE, MUCH, WRONG_ANYWHERE + UNKNOWN_OF_FIVE + WRONG_OF_FIVE + "goBack(0)=NOT");
        each("much, behind a fault", Check.FIVE, MUCH + "dale()=-11 ", WRONG_ANYWHERE + UNKNOWN_OF_FIVE + WRONG_OF_FIVE + "goBack(0)=NOT");
        each("nothing to undo", Check.FIVE, MUCH + "keep(1) ", "undo()=NOT goBack(0)=NOT " + WRONG_OF_FIVE);
        each("the estuary alone", "b5 3;", "hour(3) keep(0) rain(2) ", WRONG_ANYWHERE + "farm(1,0)=UNKNOWN farm(0,6)=OUTSIDE talk(0,0)=UNKNOWN say(1,0)=UNKNOWN "
            + "say(0,5)=UNKNOWN say(0,0)=NOT dam(1,true)=UNKNOWN dam(0,true)=NOT smooth(1)=UNKNOWN smooth(0)=NOT hush(0)=UNKNOWN down(1)=UNKNOWN "
            + "privately(2)=UNKNOWN dams(0,2)=UNKNOWN goBack(1)=NOT");
        each("all full", Check.FIVE, "keep(0) 2*say(5,4) 150*hour(60) hour(60) seed(12) 6*see(1,1) 15*write(1,4) 3*feed(98) 12*say(5,4) frost(true) ",
            UNKNOWN_OF_FIVE + "hour(1)=FULL hour(60)=FULL hour(0)=OUTSIDE hour(61)=OUTSIDE drift(1)=FULL drift(60)=FULL drift(0)=OUTSIDE drift(61)=OUTSIDE "
            + "see(0,0)=FULL see(4,4)=FULL write(0,0)=FULL write(5,NONE)=FULL say(0,0)=NOT goBack(1)=NOT");
        each("twelve go", Check.FIVE, "6*say(5,4) hour(1) see(4,1) write(1,4) feed(98) keep(1) 6*say(3,1) ", "say(1,0)=FULL say(5,4)=FULL say(0,0)=NOT say(0,5)=UNKNOWN say(6,0)=UNKNOWN "
            + "talk(12,0)=UNKNOWN hush(12)=UNKNOWN where(12,0,0)=UNKNOWN talk(11,4)=OUTSIDE where(11,101,0)=OUTSIDE");
        each("a full text", null, "<b2_1;f0_1_3_1;> dale() say(1,0) hour(1) see(1,0) write(0,1) keep(1) say(1,1) <b3_4;f0_2_4_1;> 226*feed(32) ",
            "feed(32)=FULL feed(98)=FULL feed(255)=FULL feed(0)=FULL feed(-1)=OUTSIDE feed(256)=OUTSIDE hour(0)=OUTSIDE goBack(0)=NOT");
        check.end();
    }

    private static void each(String when, String dale, String made, String refused) {
        for (String call : refused.trim().split("\\s+")) {
            Script.run(check, when + ", " + call, dale, made + call);
        }
        Script.run(check, when + ", one behind the other", dale, made + refused);
    }
}
