/** Promises 18 to 28: what is tried from now. */
public final class TriedTest {
    private static final Check check = new Check("TriedTest");

    public static void main(String[] args) {
        down();
        up();
        becomes();
        takes();
        toSay();
        origin();
        privately();
        dams();
        willHear();
        where();
        dry();
        nothingChanges();
        check.end();
    }

    // Promise 18
    private static void down() {
        BeckTalk x = Check.with(Check.FIVE);
        int[] due = {0, 1, 3, 3, 1, 11};
        for (int a = 0; a < due.length; a++) {
            check.due("down(" + a + ")", x.down(a), due[a]);
        }
        check.due("down(6)", x.down(6), Check.UNKNOWN);
        check.due("down(-1)", x.down(-1), Check.UNKNOWN);
        x.dam(1, true);
        check.due("down(5) to a dam", x.down(5), 10);
        check.due("down(1) from a dam", x.down(1), 1);
        x.rain(0);
        x.frost(true);
        check.due("down(2) without flow, in frost", x.down(2), 2);
    }

    // Promise 19
    private static void up() {
        BeckTalk x = Check.with(Check.FIVE);
        int[] due = {62, 44, 0, 32, 0, 0};
        for (int a = 0; a < due.length; a++) {
            check.due("up(" + a + ")", x.up(a), due[a]);
        }
        check.due("up(6)", x.up(6), Check.UNKNOWN);
        check.due("up(-1)", x.up(-1), Check.UNKNOWN);
        x.dam(1, true);
        check.due("up(0) behind a dam", x.up(0), 18);
        check.due("up(1) at a dam", x.up(1), 44);
    }

    // Promise 20
    private static void becomes() {
        BeckTalk x = Check.with(Check.FIVE);
        check.due("becomes(5, 3, 4)", x.becomes(5, 3, 4), 4);
        check.due("becomes(5, 1, 4)", x.becomes(5, 1, 4), 1);
        check.due("becomes(5, 0, 4)", x.becomes(5, 0, 4), 3);
        check.due("becomes(5, 5, 4)", x.becomes(5, 5, 4), Check.NONE);
        check.due("becomes(1, 2, 4)", x.becomes(1, 2, 4), Check.NONE);
        check.due("becomes(4, 1, 4)", x.becomes(4, 1, 4), Check.NONE);
        check.due("becomes(6, 0, 0)", x.becomes(6, 0, 0), Check.UNKNOWN);
        check.due("becomes(1, 6, 0)", x.becomes(1, 6, 0), Check.UNKNOWN);
        check.due("becomes(1, 0, 5)", x.becomes(1, 0, 5), Check.UNKNOWN);
        check.due("becomes(1, 0, -1)", x.becomes(1, 0, -1), Check.UNKNOWN);
        check.due("becomes(1, -1, 0)", x.becomes(1, -1, 0), Check.UNKNOWN);
        x.frost(true);
        x.rain(7);
        check.due("becomes(2, 0, 0) with falls twice", x.becomes(2, 0, 0), 4);
        x.rain(6);
        check.due("becomes(2, 0, 0) with falls once", x.becomes(2, 0, 0), 1);
        x.dam(3, true);
        check.due("becomes(5, 3, 2) at a dam", x.becomes(5, 3, 2), 2);
        check.due("becomes(5, 1, 2) behind a dam", x.becomes(5, 1, 2), Check.NONE);
    }

    // Promise 21
    private static void takes() {
        BeckTalk x = Check.with("b2 5;f0 9 0 0;f1 1 0 0;f2 3 0 0;");
        check.due("takes(3, 2)", x.takes(3, 2), 3);
        check.due("takes(3, 1)", x.takes(3, 1), 4);
        check.due("takes(3, 0)", x.takes(3, 0), 12);
        check.due("takes(1, 0)", x.takes(1, 0), 8);
        check.due("takes(1, 1)", x.takes(1, 1), Check.NONE);
        check.due("takes(0, 0)", x.takes(0, 0), Check.NONE);
        check.due("takes(1, 3)", x.takes(1, 3), Check.NONE);
        check.due("takes(4, 0)", x.takes(4, 0), Check.UNKNOWN);
        check.due("takes(0, -1)", x.takes(0, -1), Check.UNKNOWN);
        x.frost(true);
        check.due("takes(3, 0) in frost", x.takes(3, 0), 12);
        x.rain(1);
        check.due("takes(3, 0) with FLOW 1", x.takes(3, 0), 52);
        x.rain(0);
        check.due("takes(3, 0) with FLOW 0", x.takes(3, 0), Check.NONE);
        check.due("takes(3, 4) with FLOW 0", x.takes(3, 4), Check.UNKNOWN);
        x.rain(9);
        x.dam(2, true);
        check.due("takes(3, 2) to a dam", x.takes(3, 2), 2);
        check.due("takes(3, 1) over a dam", x.takes(3, 1), Check.NONE);
    }

    // Promise 22
    private static void toSay() {
        BeckTalk x = Check.with(Check.FIVE);
        check.due("toSay(5, 1, 1)", x.toSay(5, 1, 1), 30);
        check.due("toSay(5, 1, 0)", x.toSay(5, 1, 0), 1);
        check.due("toSay(5, 1, 2)", x.toSay(5, 1, 2), 0);
        check.due("toSay(4, 0, 4)", x.toSay(4, 0, 4), 16);
        check.due("toSay(4, 1, 4)", x.toSay(4, 1, 4), 0);
        check.due("toSay(0, 0, 0)", x.toSay(0, 0, 0), 0);
        check.due("toSay(6, 0, 0)", x.toSay(6, 0, 0), Check.UNKNOWN);
        check.due("toSay(1, 6, 0)", x.toSay(1, 6, 0), Check.UNKNOWN);
        check.due("toSay(1, 0, 5)", x.toSay(1, 0, 5), Check.UNKNOWN);
        check.due("toSay(1, 0, -1)", x.toSay(1, 0, -1), Check.UNKNOWN);
    }

    // Promise 23
    private static void origin() {
        BeckTalk x = Check.with(Check.FIVE);
        int[] due = {0, 2, 8, 30, 15, 30};
        for (int a = 0; a < due.length; a++) {
            check.due("origin(0, 3, " + a + ")", x.origin(0, 3, a), due[a]);
        }
        check.due("origin(0, 3, -1)", x.origin(0, 3, -1), 14);
        check.due("origin(0, 0, -1)", x.origin(0, 0, -1), 2);
        check.due("origin(5, 0, -1)", x.origin(5, 0, -1), 0);
        check.due("origin(3, 4, 5)", x.origin(3, 4, 5), 16);
        check.due("origin(3, 4, 3)", x.origin(3, 4, 3), 0);
        check.due("origin(6, 0, -1)", x.origin(6, 0, -1), Check.UNKNOWN);
        check.due("origin(0, 5, -1)", x.origin(0, 5, -1), Check.UNKNOWN);
        check.due("origin(0, -1, -1)", x.origin(0, -1, -1), Check.UNKNOWN);
        check.due("origin(0, 0, 6)", x.origin(0, 0, 6), Check.UNKNOWN);
        check.due("origin(0, 0, -2)", x.origin(0, 0, -2), Check.UNKNOWN);
        x.dam(1, true);
        check.due("origin(0, 3, -1) behind a dam", x.origin(0, 3, -1), 5);
    }

    // Promise 24
    private static void privately() {
        BeckTalk x = Check.with(Check.FIVE);
        check.due("privately(0)", x.privately(0), 62);
        check.due("privately(1)", x.privately(1), 0);
        check.due("privately(10)", x.privately(10), 18);
        check.due("privately(32)", x.privately(32), 62);
        check.due("privately(63)", x.privately(63), 0);
        check.due("privately(64)", x.privately(64), Check.UNKNOWN);
        check.due("privately(-1)", x.privately(-1), Check.UNKNOWN);
        check.due("privately(-2147483648)", x.privately(Integer.MIN_VALUE), Check.UNKNOWN);
        x.dam(1, true);
        check.due("privately(1) with a dam", x.privately(1), 44);
        check.due("privately(0) without a dale", new BeckTalk().privately(0), 0);
    }

    // Promise 25
    private static void dams() {
        BeckTalk x = Check.with("b2 1;f0 1 0 0;f1 1 0 0;f2 1 0 0;f3 1 0 0;f1 1 0 0;");
        check.due("dams(4, 1)", x.dams(4, 1), 2);
        check.due("dams(4, 2)", x.dams(4, 2), 4);
        check.due("dams(4, 4)", x.dams(4, 4), 8);
        check.due("dams(4, 5)", x.dams(4, 5), 8);
        check.due("dams(4, 8)", x.dams(4, 8), Check.NONE);
        check.due("dams(4, 9)", x.dams(4, 9), Check.NONE);
        check.due("dams(4, 48)", x.dams(4, 48), 0);
        check.due("dams(4, 0)", x.dams(4, 0), 0);
        check.due("dams(1, 1)", x.dams(1, 1), Check.NONE);
        check.due("dams(5, 4)", x.dams(5, 4), 0);
        check.due("dams(0, 63)", x.dams(0, 63), 0);
        check.due("dams(4, 64)", x.dams(4, 64), Check.UNKNOWN);
        check.due("dams(4, -1)", x.dams(4, -1), Check.UNKNOWN);
        check.due("dams(6, 0)", x.dams(6, 0), Check.UNKNOWN);
        check.due("dams(-1, 0)", x.dams(-1, 0), Check.UNKNOWN);
        x.dam(2, true);
        check.due("dams(4, 1) with a dam", x.dams(4, 1), 0);
        check.due("dams(4, 4) with a dam", x.dams(4, 4), 8);
        check.due("dams(2, 1) from a dam", x.dams(2, 1), 2);
        for (int a = 1; a <= 8; a++) {
            damsInARow(a, 0);
            damsInARow(a, 256);
        }
    }

    // Half of the sets at a time: an object is used for 512 calls at most.
    private static void damsInARow(int a, int from) {
        BeckTalk x = Check.with("b2 1;f0 1 0 0;f1 1 0 0;f2 1 0 0;f3 1 0 0;f4 1 0 0;f5 1 0 0;f6 1 0 0;f7 1 0 0;");
        for (int set = from; set < from + 256; set++) {
            int listeners = set & (1 << a) - 1;
            int first = 31 - Integer.numberOfLeadingZeros(listeners);
            int due = listeners == 0 ? 0 : first + 1 == a ? Check.NONE : 1 << first + 1;
            check.due("dams(" + a + ", " + set + ") in a row", x.dams(a, set), due);
        }
    }

    // Promise 26
    private static void willHear() {
        BeckTalk x = Check.with(Check.FIVE);
        x.say(4, 0);
        x.say(2, 0);
        x.hour(1);
        check.due("willHear(0, 0, 0)", x.willHear(0, 0, 0), 0);
        check.due("willHear(0, 0, 1)", x.willHear(0, 0, 1), 3);
        check.due("willHear(0, 1, 0)", x.willHear(0, 1, 0), 0);
        check.due("willHear(0, 2, 0)", x.willHear(0, 2, 0), 1);
        check.due("willHear(0, 2, 1)", x.willHear(0, 2, 1), 1);
        check.due("willHear(1, 100, 0)", x.willHear(1, 100, 0), 0);
        check.due("willHear(1, 100, 1)", x.willHear(1, 100, 1), 4);
        check.due("willHear(5, 100, 1)", x.willHear(5, 100, 1), Check.NONE);
        check.due("willHear(6, 101, 2)", x.willHear(6, 101, 2), Check.UNKNOWN);
        check.due("willHear(-1, 0, 0)", x.willHear(-1, 0, 0), Check.UNKNOWN);
        check.due("willHear(0, 101, 0)", x.willHear(0, 101, 0), Check.OUTSIDE);
        check.due("willHear(0, -1, 0)", x.willHear(0, -1, 0), Check.OUTSIDE);
        check.due("willHear(0, 0, 2)", x.willHear(0, 0, 2), Check.OUTSIDE);
        check.due("willHear(0, 0, -1)", x.willHear(0, 0, -1), Check.OUTSIDE);
        x.frost(true);
        check.due("willHear(0, 100, 0) in frost", x.willHear(0, 100, 0), 0);
        BeckTalk y = Check.with("b2 1;f0 2 0 0;");
        y.say(1, 1);
        check.due("willHear(0, 100, 0), the beck falls dry", y.willHear(0, 100, 0), 0);
        y.rain(2);
        check.due("willHear(0, 3, 0)", y.willHear(0, 3, 0), 0);
        check.due("willHear(0, 4, 0)", y.willHear(0, 4, 0), 1);
        BeckTalk z = Check.with("b5 7;f0 9 1 1;");
        z.say(1, 0);
        check.due("willHear(0, 6, 1), garbled twice", z.willHear(0, 6, 1), 2);
        z.hour(1);
        check.due("willHear(0, 5, 1)", z.willHear(0, 5, 1), 2);
        z.rain(6);
        check.due("willHear(0, 5, 1), garbled once", z.willHear(0, 5, 1), 1);
        z.frost(true);
        z.hour(4);
        z.frost(false);
        z.rain(7);
        check.due("willHear(0, 6, 1), flow gets less", z.willHear(0, 6, 1), 1);
    }

    // Promise 27
    private static void where() {
        BeckTalk x = Check.with(Check.FIVE);
        x.say(4, 1);
        x.say(5, 4);
        x.say(2, 0);
        check.due("where(0, 0, 0)", x.where(0, 0, 0), 4);
        check.due("where(0, 0, 1)", x.where(0, 0, 1), 1);
        check.due("where(0, 1, 0)", x.where(0, 1, 0), Check.NONE);
        check.due("where(0, 1, 1)", x.where(0, 1, 1), Check.NONE);
        check.due("where(1, 1, 0)", x.where(1, 1, 0), 3);
        check.due("where(1, 3, 1)", x.where(1, 3, 1), 4);
        check.due("where(1, 4, 0)", x.where(1, 4, 0), 1);
        check.due("where(1, 4, 1)", x.where(1, 4, 1), 1);
        check.due("where(1, 6, 0)", x.where(1, 6, 0), Check.NONE);
        check.due("where(2, 1, 0)", x.where(2, 1, 0), 1);
        check.due("where(2, 1, 1)", x.where(2, 1, 1), 4);
        check.due("where(2, 100, 1)", x.where(2, 100, 1), Check.NONE);
        check.due("where(3, 101, 2)", x.where(3, 101, 2), Check.UNKNOWN);
        check.due("where(-1, 0, 0)", x.where(-1, 0, 0), Check.UNKNOWN);
        check.due("where(0, 101, 0)", x.where(0, 101, 0), Check.OUTSIDE);
        check.due("where(0, -1, 0)", x.where(0, -1, 0), Check.OUTSIDE);
        check.due("where(0, 0, 2)", x.where(0, 0, 2), Check.OUTSIDE);
        check.due("where(0, 0, -1)", x.where(0, 0, -1), Check.OUTSIDE);
        x.dam(3, true);
        check.due("where(1, 1, 0) at a dam", x.where(1, 1, 0), Check.NONE);
        x.frost(true);
        check.due("where(1, 100, 0) in frost", x.where(1, 100, 0), 5);
        check.due("where(1, 100, 1) in frost", x.where(1, 100, 1), 4);
    }

    // Promise 28
    private static void dry() {
        BeckTalk x = new BeckTalk();
        check.due("dry(0, 0)", x.dry(0, 0), 1000000000);
        check.due("dry(0, 100)", x.dry(0, 100), 1000000000);
        check.due("dry(1, 0)", x.dry(1, 0), 0);
        check.due("dry(60, 100)", x.dry(60, 100), 1000000000);
        check.due("dry(2, 33)", x.dry(2, 33), 108900000);
        check.due("dry(5, 33), cut", x.dry(5, 33), 3913539);
        check.due("dry(6, 33), cut each", x.dry(6, 33), 1291467);
        check.due("dry(60, 1)", x.dry(60, 1), 0);
        check.due("dry(4, 1)", x.dry(4, 1), 10);
        check.due("dry(61, 50)", x.dry(61, 50), Check.OUTSIDE);
        check.due("dry(-1, 50)", x.dry(-1, 50), Check.OUTSIDE);
        check.due("dry(1, 101)", x.dry(1, 101), Check.OUTSIDE);
        check.due("dry(1, -1)", x.dry(1, -1), Check.OUTSIDE);
        long odds = 1000000000L;
        for (int n = 0; n <= 60; n++) {
            check.due("dry(" + n + ", 97)", x.dry(n, 97), odds);
            odds = odds * 97 / 100;
        }
    }

    // Section 3: nothing changes by what is tried
    private static void nothingChanges() {
        BeckTalk x = Check.with(Check.FIVE);
        x.say(2, 0);
        x.say(5, 3);
        x.hour(2);
        String ahead = Check.all(x);
        x.down(5);
        x.up(0);
        x.becomes(5, 0, 1);
        x.takes(5, 0);
        x.toSay(5, 0, 1);
        x.origin(0, 1, -1);
        x.privately(3);
        x.dams(5, 1);
        x.willHear(0, 100, 0);
        x.where(0, 100, 0);
        x.dry(9, 9);
        x.tryNext();
        check.same("all behind what is tried", Check.all(x), ahead);
    }
}
