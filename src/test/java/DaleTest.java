/** Promises 1 to 8: the dale, its text and what is told of it. */
public final class DaleTest {
    private static final Check check = new Check("DaleTest");

    public static void main(String[] args) {
        aNewObject();
        feed();
        daleAndFault();
        faults();
        numbersAndBlanks();
        daleBeginsAnew();
        faultChangesNothing();
        told();
        farm();
        talk();
        logged();
        check.end();
    }

    // Promise 1
    private static void aNewObject() {
        BeckTalk x = new BeckTalk();
        int[] due = {0, 0, 0, 0, 0, 0, 0, 0, 0, -1, -1, 0, -1, 0, 0, 0, 0};
        for (int what = 0; what < due.length; what++) {
            check.due("new told(" + what + ")", x.told(what), due[what]);
        }
        check.due("new fault()", x.fault(), Check.NONE);
        check.due("new farm(0, 0)", x.farm(0, 0), Check.UNKNOWN);
        check.due("new farm(0, 9)", x.farm(0, 9), Check.UNKNOWN);
        check.due("new talk(0, 0)", x.talk(0, 0), Check.UNKNOWN);
        check.due("new logged(0, 0)", x.logged(0, 0), Check.NONE);
        check.due("new say(1, 0)", x.say(1, 0), Check.UNKNOWN);
        check.due("new dam(0, true)", x.dam(0, true), Check.UNKNOWN);
        check.due("new smooth(0)", x.smooth(0), Check.UNKNOWN);
        check.due("new hush(0)", x.hush(0), Check.UNKNOWN);
        check.due("new down(0)", x.down(0), Check.UNKNOWN);
        check.due("new dams(0, 0)", x.dams(0, 0), Check.UNKNOWN);
        check.due("new privately(1)", x.privately(1), Check.UNKNOWN);
        check.due("new see(0, 0)", x.see(0, 0), Check.UNKNOWN);
        check.due("new write(0, -1)", x.write(0, -1), Check.UNKNOWN);
        check.due("new seed(0)", x.seed(0), 0);
    }

    // Promise 2
    private static void feed() {
        BeckTalk x = new BeckTalk();
        check.due("feed(-1)", x.feed(-1), Check.OUTSIDE);
        check.due("feed(256)", x.feed(256), Check.OUTSIDE);
        check.due("feed(0)", x.feed(0), 1);
        check.due("feed(255)", x.feed(255), 2);
        for (int n = 3; n <= 240; n++) {
            check.due("feed(32)", x.feed(32), n);
        }
        check.due("the 241st feed(32)", x.feed(32), Check.FULL);
        check.due("the 241st feed(256)", x.feed(256), Check.OUTSIDE);
        check.due("told(2) when full", x.told(2), 240);
        check.due("dale() of letter 0", x.dale(), -11);
        check.due("told(2) behind the fault", x.told(2), 0);
        check.due("feed(98) then", x.feed(98), 1);
    }

    private static void text(String text, int dale, int fault) {
        BeckTalk x = Check.feed(new BeckTalk(), text);
        check.due("dale() of '" + text + "'", x.dale(), dale);
        check.due("fault() of '" + text + "'", x.fault(), fault);
        check.due("told(2) of '" + text + "'", x.told(2), 0);
        check.due("told(1) of '" + text + "'", x.told(1), Math.max(dale, 0));
    }

    // Promises 3 and 4
    private static void daleAndFault() {
        text("", 0, -1);
        text("   ", 0, -1);
        text("b2 0;", 1, -1);
        text("b9 9;", 1, -1);
        text("b2 1;f0 1 0 0;", 2, -1);
        text("b2 1;f0 9 4 1;f1 9 4 1;", 3, -1);
        text("b2 1;" + "f0 1 0 0;".repeat(8), 9, -1);
        text(" ".repeat(235) + "b2 0;", 1, -1);
    }

    // Promise 4
    private static void faults() {
        text("f0 1 0 0;", -11, 0);
        text("  f", -11, 2);
        text("x", -11, 0);
        text("B2 1;", -11, 0);
        text(";", -11, 0);
        text("5", -11, 0);
        text("1234", -11, 0);
        text("\t", -11, 0);
        text("b", -11, 1);
        text("b  ", -11, 3);
        text("b2", -11, 2);
        text("b2;", -11, 2);
        text("b2 1", -11, 4);
        text("b2 1 ", -11, 5);
        text("b2 1 3;", -11, 5);
        text("b2 1x;", -11, 4);
        text("bb", -11, 1);
        text("bf", -11, 1);
        text("b2 f", -11, 3);
        text("b-2 1;", -11, 1);
        text("b2 1;;", -11, 5);
        text("b2 1;x", -11, 5);
        text("b2 1;7", -11, 5);
        text("b2 1;f", -11, 6);
        text("b2 1;f;", -11, 6);
        text("b2 1;f0 1 0;", -11, 11);
        text("b2 1;f0 1 0 1 1;", -11, 14);
        text("b2 1;f0 1 0 1", -11, 13);
        text("b1 1;", -12, 1);
        text("b10 1;", -12, 1);
        text("b21;", -12, 1);
        text("b1", -12, 1);
        text("b0002 1;", -12, 1);
        text("b1234567890123 1;", -12, 1);
        text("b4294967298 1;", -12, 1);
        text("b2 10;", -12, 3);
        text("b2 0000;", -12, 3);
        text("b2 1;f1 1 0 0;", -12, 6);
        text("b2 1;f0 1 0 0;f2 1 0 0;", -12, 15);
        text("b2 1;f0 0 0 0;", -12, 8);
        text("b2 1;f0 10 0 0;", -12, 8);
        text("b2 1;f0 1 5 0;", -12, 10);
        text("b2 1;f0 1 0 2;", -12, 12);
        text("b9 1;f0 1 0 9;", -12, 12);
        text("b2 1;f0 1 0 2x", -12, 12);
        text("b2 1;b", -13, 5);
        text("b2 1; b2 1;", -13, 6);
        text("b2 1;f0 1 0 0;b2 1;", -13, 14);
        text("b2 1;" + "f0 1 0 0;".repeat(8) + "f", -13, 77);
        text("b2 1;" + "f0 1 0 0;".repeat(8) + "b", -13, 77);
        text("b2 1;" + "f0 1 0 0;".repeat(8) + "x", -11, 77);
        text("b1 1;x", -12, 1);
        text("b2 1x;f9", -11, 4);
    }

    private static void numbersAndBlanks() {
        BeckTalk x = Check.with("  b  003   009  ;  f 000 001 4 02 ; f001 9 1 1;  ");
        check.due("told(0) with blanks", x.told(0), 3);
        check.due("told(1) with blanks", x.told(1), 3);
        check.due("told(4) with blanks", x.told(4), 9);
        check.due("farm(1, 1) with blanks", x.farm(1, 1), 1);
        check.due("farm(1, 3) with blanks", x.farm(1, 3), 2);
        check.due("farm(2, 0) with blanks", x.farm(2, 0), 1);
        text("b3 0 9;", -11, 5);
        text("b2 1;f0 1 01 1;", 2, -1);
        text("b2 1;f0 1 0 1 ; f 1 1 0 1 ;", 3, -1);
        behind("b2 1;x", "b2 1", -11, 4);
        behind("b2 11;", "b2 1", -11, 4);
        behind("b2  ;", "b2 ", -11, 3);
        behind("b2 1    x", "b2 1;", 1, -1);
    }

    // Nothing of an earlier text counts in a later one.
    private static void behind(String first, String text, int dale, int fault) {
        BeckTalk x = Check.feed(new BeckTalk(), first);
        x.dale();
        Check.feed(x, text);
        check.due("dale() of '" + text + "' behind '" + first + "'", x.dale(), dale);
        check.due("fault() of '" + text + "' behind '" + first + "'", x.fault(), fault);
    }

    // Promise 3
    private static void daleBeginsAnew() {
        BeckTalk x = Check.with(Check.FIVE);
        x.say(2, 0);
        x.say(3, 1);
        x.dam(1, true);
        x.smooth(3);
        x.hour(7);
        x.frost(true);
        x.see(0, 1);
        x.write(1, 2);
        x.seed(77);
        x.keep(0);
        x.rain(9);
        Check.feed(x, Check.FIVE);
        check.due("dale() again", x.dale(), 6);
        check.same("all of a dale told again", Check.all(x), Check.all(Check.with(Check.FIVE)));
        check.due("goBack(0) behind dale()", x.goBack(0), Check.NOT);
        check.due("undo() behind dale()", x.undo(), Check.NOT);
        check.due("seed() behind dale()", x.seed(0), 77);
        x.say(2, 0);
        x.keep(1);
        Check.feed(x, " ");
        check.due("dale() of a blank", x.dale(), 0);
        check.same("all of no dale", Check.all(x), Check.all(new BeckTalk()));
        check.due("goBack(1) without a dale", x.goBack(1), Check.NOT);
        check.due("hour(1) without a dale", x.hour(1), Check.NOT);
    }

    // Promise 3, with a fault: all else is as it was
    private static void faultChangesNothing() {
        BeckTalk x = Check.with(Check.FIVE);
        x.say(2, 0);
        x.see(0, 1);
        x.write(1, 2);
        x.keep(1);
        x.hour(1);
        String ahead = Check.all(x).replace("fault -1", "fault 12");
        Check.feed(x, "b2 9;f0 1 0 7;");
        check.due("dale() with a fault", x.dale(), -12);
        check.same("all behind a fault", Check.all(x), ahead);
        check.due("undo() behind a fault", x.undo(), 0);
        check.due("goBack(1) behind a fault", x.goBack(1), 1);
        Check.feed(x, "b2 9;");
        check.due("fault() ahead of the next dale()", x.fault(), 12);
        check.due("dale() without a fault", x.dale(), 1);
        check.due("fault() then", x.fault(), Check.NONE);
    }

    // Promise 5
    private static void told() {
        BeckTalk x = Check.with(Check.FIVE);
        Check.feed(x, "xyz");
        x.say(2, 0);
        x.say(3, 4);
        x.say(4, 0);
        x.dam(2, true);
        x.dam(4, true);
        x.frost(true);
        x.frost(false);
        x.hour(1);
        x.frost(true);
        x.see(1, 1);
        x.write(0, 0);
        x.write(0, 1);
        int[] due = {5, 6, 3, 1, 4, 1, 20, 2, 0, 0, 1, 0, 5, 2, 1, 2, 8 + 1};
        for (int what = 0; what < due.length; what++) {
            check.due("told(" + what + ")", x.told(what), due[what]);
        }
        check.due("told(-1)", x.told(-1), Check.OUTSIDE);
        check.due("told(17)", x.told(17), Check.OUTSIDE);
        toldLoudest();
        toldBottom();
        toldEven();
        toldLongest();
        toldContradictions();
    }

    private static void toldLoudest() {
        BeckTalk x = Check.with("b3 9;f0 1 0 0;f0 1 0 0;f2 1 0 0;");
        check.due("LOUDEST of none", x.told(9), Check.NONE);
        x.say(3, 0);
        x.hour(1);
        check.due("LOUDEST, one heard", x.told(9), 2);
        x.hour(1);
        check.due("LOUDEST of like ones", x.told(9), 0);
        x.say(3, 1);
        x.hour(1);
        check.due("LOUDEST, two heard", x.told(9), 2);
    }

    private static void toldBottom() {
        BeckTalk x = Check.with("b3 9;");
        check.due("BOTTOM of the estuary alone", x.told(10), Check.NONE);
        x = Check.with("b3 9;f0 1 0 0;f0 1 0 0;");
        check.due("BOTTOM of like ones", x.told(10), 1);
        x = Check.with("b3 9;f0 1 0 0;f0 1 0 0;f2 1 0 0;f3 1 0 0;f1 1 0 0;");
        check.due("BOTTOM", x.told(10), 2);
        x.dam(3, true);
        check.due("BOTTOM of like ones by a dam", x.told(10), 1);
    }

    private static void toldEven() {
        BeckTalk x = Check.with("b3 6;f0 1 0 2;f0 1 1 0;f0 1 3 0;f3 1 3 1;f0 1 2 2;f0 1 4 0;f0 1 1 1;f7 1 1 2;");
        check.due("EVEN", x.told(11), 2 + 4 + 16 + 32 + 64 + 256);
        x.rain(7);
        check.due("EVEN with falls twice", x.told(11), 2 + 4 + 8 + 16 + 32 + 64 + 256);
        x.rain(0);
        x.dam(3, true);
        check.due("EVEN by a dam, without flow", x.told(11), 2 + 4 + 32 + 64 + 256);
        x.smooth(7);
        check.due("EVEN, smoothed", x.told(11), 2 + 4 + 32 + 64 + 128);
        check.due("EVEN but for word 0", Check.with("b3 6;f0 1 4 1;").told(11), 0);
        check.due("EVEN but for the last word", Check.with("b3 6;f0 1 2 1;").told(11), 0);
    }

    private static void toldLongest() {
        BeckTalk x = Check.with("b3 9;");
        check.due("LONGEST of the estuary alone", x.told(12), Check.NONE);
        x = Check.with("b3 4;f0 2 0 0;f0 1 0 0;f2 1 0 0;f3 1 0 0;");
        check.due("LONGEST", x.told(12), 4);
        x.dam(3, true);
        check.due("LONGEST of like ones by a dam", x.told(12), 1);
        x.rain(1);
        x.frost(true);
        check.due("LONGEST with frost", x.told(12), 1);
        x.rain(0);
        check.due("LONGEST without flow", x.told(12), Check.NONE);
    }

    private static void toldContradictions() {
        BeckTalk x = Check.with("b3 9;f0 1 0 0;f0 1 0 0;f1 1 0 0;");
        x.say(1, 0);
        x.say(2, 0);
        x.hour(1);
        check.due("like words do not contradict", x.told(8), 0);
        x.say(1, 0);
        x.say(2, 1);
        x.say(2, 2);
        x.say(1, 0);
        x.hour(1);
        check.due("unlike words contradict once", x.told(8), 1);
        x.say(1, 0);
        x.hour(1);
        check.due("another hour does not contradict", x.told(8), 1);
        x.say(1, 0);
        x.say(2, 1);
        x.say(3, 0);
        x.say(3, 1);
        x.hour(1);
        check.due("two farms in an hour", x.told(8), 3);
        x.hour(1);
        check.due("the same two go on", x.told(8), 4);
        Check.feed(x, "b3 9;");
        x.dale();
        check.due("another dale has none", x.told(8), 0);
    }

    // Promise 6
    private static void farm() {
        BeckTalk x = Check.with(Check.FIVE);
        int[][] due = {{-1, 0, 0, 0}, {0, 2, 1, 2}, {1, 1, 3, 0}, {1, 3, 2, 1}, {0, 1, 4, 3}, {3, 1, 0, 0}};
        for (int a = 0; a < due.length; a++) {
            for (int what = 0; what < 4; what++) {
                check.due("farm(" + a + ", " + what + ")", x.farm(a, what), due[a][what]);
            }
            check.due("farm(" + a + ", 4)", x.farm(a, 4), Check.NONE);
            check.due("farm(" + a + ", 5)", x.farm(a, 5), 0);
        }
        check.due("farm(-1, 0)", x.farm(-1, 0), Check.UNKNOWN);
        check.due("farm(6, 6)", x.farm(6, 6), Check.UNKNOWN);
        check.due("farm(5, 6)", x.farm(5, 6), Check.OUTSIDE);
        check.due("farm(0, -1)", x.farm(0, -1), Check.OUTSIDE);
        x.smooth(3);
        check.due("farm(3, 2) smoothed", x.farm(3, 2), 0);
        check.due("farm(3, 3) smoothed", x.farm(3, 3), 1);
        x.say(4, 0);
        x.say(4, 4);
        x.hour(1);
        check.due("farm(0, 4) behind two", x.farm(0, 4), 4);
        check.due("farm(0, 5) behind two", x.farm(0, 5), 2);
        check.due("farm(4, 5), where it was said", x.farm(4, 5), 0);
    }

    // Promise 7
    private static void talk() {
        BeckTalk x = Check.with(Check.FIVE);
        x.say(5, 4);
        x.say(2, 0);
        x.say(4, 1);
        int[][] due = {{4, 5, 4, 5}, {0, 2, 4, 2}, {1, 4, 4, 4}};
        askTalks(x, due);
        check.due("talk(3, 0)", x.talk(3, 0), Check.UNKNOWN);
        check.due("talk(-1, 4)", x.talk(-1, 4), Check.UNKNOWN);
        check.due("talk(0, 4)", x.talk(0, 4), Check.OUTSIDE);
        check.due("talk(0, -1)", x.talk(0, -1), Check.OUTSIDE);
        x.rain(3);
        x.hour(1);
        askTalks(x, new int[][] {{4, 5, 1, 5}, {0, 2, 1, 2}, {1, 4, 1, 4}});
        x.hour(1);
        askTalks(x, new int[][] {{4, 3, 12, 5}, {4, 1, 8, 2}});
        check.due("talk(2, 0), over at the estuary", x.talk(2, 0), Check.UNKNOWN);
        x.hour(4);
        askTalks(x, new int[][] {{1, 1, 8, 5}});
    }

    private static void askTalks(BeckTalk x, int[][] due) {
        check.due("told(7)", x.told(7), due.length);
        for (int i = 0; i < due.length; i++) {
            for (int what = 0; what < 4; what++) {
                check.due("talk(" + i + ", " + what + ")", x.talk(i, what), due[i][what]);
            }
        }
    }

    // Promise 8
    private static void logged() {
        BeckTalk x = Check.with("b9 8;f0 2 1 1;");
        check.due("logged(0, 4) of none", x.logged(0, 4), Check.OUTSIDE);
        check.due("logged(0, -1) of none", x.logged(0, -1), Check.OUTSIDE);
        check.due("logged(0, 3) of none", x.logged(0, 3), Check.NONE);
        for (int n = 0; n < 23; n++) {
            x.rain(4);
            x.say(1, n % 9);
            x.hour(2);
            check.due("told(13)", x.told(13), Math.min(20, n + 1));
        }
        for (int i = 0; i < 20; i++) {
            int n = 22 - i;
            check.due("logged(" + i + ", 0)", x.logged(i, 0), 0);
            check.due("logged(" + i + ", 1)", x.logged(i, 1), (n % 9 + 1) % 9);
            check.due("logged(" + i + ", 2)", x.logged(i, 2), 2 * n + 1);
            check.due("logged(" + i + ", 3)", x.logged(i, 3), 1);
        }
        check.due("logged(20, 0)", x.logged(20, 0), Check.NONE);
        check.due("logged(-1, 0)", x.logged(-1, 0), Check.NONE);
        check.due("logged(2147483647, 3)", x.logged(Integer.MAX_VALUE, 3), Check.NONE);
        check.due("logged(-2147483648, 3)", x.logged(Integer.MIN_VALUE, 3), Check.NONE);
        String ahead = Check.allButUndoing(x);
        x.say(1, 8);
        x.say(1, 7);
        x.hour(2);
        x.undo();
        x.undo();
        x.undo();
        check.same("the log, undone", Check.allButUndoing(x), ahead);
        BeckTalk y = Check.with(Check.FIVE);
        y.say(2, 0);
        y.hour(1);
        y.say(4, 0);
        y.hour(1);
        int[][] due = {{0, 3, 1, 4}, {1, 4, 0, 2}};
        for (int i = 0; i < due.length; i++) {
            for (int what = 0; what < 4; what++) {
                check.due("logged(" + i + ", " + what + ") of two", y.logged(i, what), due[i][what]);
            }
        }
    }
}
