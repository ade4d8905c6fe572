/** Promises 9 to 17: what is done, and undone. */
public final class DoneTest {
    private static final Check check = new Check("DoneTest");

    public static void main(String[] args) {
        hour();
        hourAndFlow();
        hourAndFrost();
        hourAndDams();
        garbling();
        hoursToTheEnd();
        say();
        rain();
        frost();
        dam();
        smooth();
        hush();
        drift();
        driftByHand();
        undo();
        undoEach();
        check.end();
    }

    // Promise 9
    private static void hour() {
        BeckTalk x = Check.with(Check.FIVE);
        check.due("hour(0)", x.hour(0), Check.OUTSIDE);
        check.due("hour(61)", x.hour(61), Check.OUTSIDE);
        check.due("hour(-1)", x.hour(-1), Check.OUTSIDE);
        check.due("hour(61) without a dale", new BeckTalk().hour(61), Check.OUTSIDE);
        check.due("hour(60) without a dale", new BeckTalk().hour(60), Check.NOT);
        check.due("told(3)", x.told(3), 0);
        x.say(5, 4);
        x.say(3, 0);
        check.due("hour(1)", x.hour(1), 2);
        check.due("farm(3, 4)", x.farm(3, 4), 4);
        check.due("hour(2)", x.hour(2), 2);
        check.due("farm(1, 4)", x.farm(1, 4), 0);
        check.due("hour(1)", x.hour(1), 2);
        check.due("farm(1, 4)", x.farm(1, 4), 1);
        check.due("hour(1)", x.hour(1), 1);
        check.due("farm(0, 4)", x.farm(0, 4), 2);
        check.due("hour(1)", x.hour(1), 0);
        check.due("farm(0, 4)", x.farm(0, 4), 3);
        check.due("told(3)", x.told(3), 6);
        check.due("told(4)", x.told(4), 3);
    }

    private static void hourAndFlow() {
        BeckTalk x = Check.with("b2 2;f0 9 0 0;");
        for (int h = 0; h < 30; h++) {
            check.due("FLOW in hour " + h, x.told(4), Math.max(0, 2 - h / 6));
            x.hour(1);
        }
        x.rain(9);
        x.hour(60);
        check.due("FLOW behind sixty hours", x.told(4), 0);
        BeckTalk y = Check.with("b2 1;f0 9 0 0;");
        y.say(1, 0);
        y.hour(60);
        check.due("to go when the beck is dry", y.talk(0, 2), 30);
        y.rain(9);
        y.hour(3);
        check.due("to go when it rained", y.talk(0, 2), 3);
        y.hour(1);
        check.due("it came", y.farm(0, 5), 1);
        BeckTalk z = Check.with("b2 9;f0 1 0 0;f1 1 0 0;");
        z.say(2, 0);
        z.hour(1);
        check.due("what was over is lost", z.talk(0, 2), 4);
    }

    private static void hourAndFrost() {
        BeckTalk x = Check.with(Check.FIVE);
        x.say(2, 0);
        x.frost(true);
        check.due("hour(6) in frost", x.hour(6), 1);
        check.due("to go in frost", x.talk(0, 2), 4);
        check.due("HOURS in frost", x.told(3), 6);
        check.due("FLOW gets less in frost, too", x.told(4), 3);
        x.frost(false);
        x.hour(1);
        check.due("to go without frost", x.talk(0, 2), 1);
    }

    private static void hourAndDams() {
        BeckTalk x = Check.with(Check.FIVE);
        x.dam(1, true);
        x.say(2, 0);
        x.say(1, 1);
        check.due("hour(1), over at a dam", x.hour(1), 1);
        check.due("the dammed farm heard", x.farm(1, 4), 4);
        check.due("hour(1), said at a dam", x.hour(1), 0);
        check.due("what is said at a dam goes down", x.farm(0, 4), 3);
    }

    private static void garbling() {
        int[][] once = {{0, 1, 2, 3, 4}, {2, 3, 4, 0, 1}, {0, 1, 2, 2, 2}, {4, 3, 2, 1, 0}, {2, 2, 2, 3, 4}};
        int[][] twice = {{0, 1, 2, 3, 4}, {4, 0, 1, 2, 3}, {0, 1, 2, 2, 2}, {0, 1, 2, 3, 4}, {2, 2, 2, 3, 4}};
        for (int sort = 0; sort < 5; sort++) {
            for (int w = 0; w < 5; w++) {
                check.due("SORT " + sort + " of " + w + " with FLOW 6", heard(sort, 6, w), once[sort][w]);
                check.due("SORT " + sort + " of " + w + " with FLOW 7", heard(sort, 7, w), twice[sort][w]);
            }
        }
    }

    private static int heard(int sort, int flow, int w) {
        BeckTalk x = Check.with("b5 " + flow + ";f0 1 " + sort + " 2;");
        x.say(1, w);
        x.hour(1);
        return x.farm(0, 4);
    }

    private static void hoursToTheEnd() {
        BeckTalk x = Check.with(Check.FIVE);
        for (int n = 0; n < 150; n++) {
            x.hour(60);
        }
        check.due("told(3)", x.told(3), 9000);
        check.due("hour(60) at 9000", x.hour(60), 0);
        check.due("told(3)", x.told(3), 9060);
        check.due("hour(1) above 9000", x.hour(1), Check.FULL);
        check.due("hour(61) above 9000", x.hour(61), Check.OUTSIDE);
        check.due("drift(1) above 9000", x.drift(1), Check.FULL);
        check.due("drift(0) above 9000", x.drift(0), Check.OUTSIDE);
        x.undo();
        check.due("hour(1) at 9000", x.hour(1), 0);
        check.due("hour(1) at 9001", x.hour(1), Check.FULL);
        check.due("told(3)", x.told(3), 9001);
    }

    // Promise 10
    private static void say() {
        BeckTalk x = Check.with(Check.FIVE);
        check.due("say(6, 0)", x.say(6, 0), Check.UNKNOWN);
        check.due("say(-1, 0)", x.say(-1, 0), Check.UNKNOWN);
        check.due("say(1, 5)", x.say(1, 5), Check.UNKNOWN);
        check.due("say(1, -1)", x.say(1, -1), Check.UNKNOWN);
        check.due("say(0, 5)", x.say(0, 5), Check.UNKNOWN);
        check.due("say(0, 0)", x.say(0, 0), Check.NOT);
        for (int n = 1; n <= 12; n++) {
            check.due("say(3, 4)", x.say(3, 4), n);
        }
        check.due("say(3, 4) the 13th time", x.say(3, 4), Check.FULL);
        check.due("say(0, 4) with 12", x.say(0, 4), Check.NOT);
        check.due("say(9, 4) with 12", x.say(9, 4), Check.UNKNOWN);
        check.due("told(16)", x.told(16), 12);
        check.due("talk(11, 2)", x.talk(11, 2), 12);
        check.due("farm(3, 5)", x.farm(3, 5), 0);
        x.hush(4);
        check.due("say(1, 0) behind a hush", x.say(1, 0), 12);
        check.due("talk(11, 1)", x.talk(11, 1), 1);
    }

    // Promise 11
    private static void rain() {
        BeckTalk x = Check.with(Check.FIVE);
        check.due("rain(9)", x.rain(9), 4);
        check.due("rain(0)", x.rain(0), 9);
        check.due("rain(10)", x.rain(10), Check.OUTSIDE);
        check.due("rain(-1)", x.rain(-1), Check.OUTSIDE);
        check.due("told(4)", x.told(4), 0);
        check.due("rain(10) without a dale", new BeckTalk().rain(10), Check.OUTSIDE);
        check.due("rain(9) without a dale", new BeckTalk().rain(9), Check.NOT);
    }

    // Promise 12
    private static void frost() {
        BeckTalk x = Check.with(Check.FIVE);
        check.due("frost(false)", x.frost(false), 0);
        check.due("frost(true)", x.frost(true), 0);
        check.due("told(5)", x.told(5), 1);
        check.due("frost(true)", x.frost(true), 1);
        check.due("frost(false)", x.frost(false), 1);
        check.due("told(5)", x.told(5), 0);
        check.due("told(16)", x.told(16), 4);
        check.due("frost(false) without a dale", new BeckTalk().frost(false), Check.NOT);
    }

    // Promise 13
    private static void dam() {
        BeckTalk x = Check.with(Check.FIVE);
        check.due("dam(5, true)", x.dam(5, true), 0);
        check.due("dam(1, true)", x.dam(1, true), 0);
        check.due("dam(5, true)", x.dam(5, true), 1);
        check.due("told(6)", x.told(6), 34);
        check.due("dam(5, false)", x.dam(5, false), 1);
        check.due("dam(5, false)", x.dam(5, false), 0);
        check.due("told(6)", x.told(6), 2);
        check.due("dam(6, true)", x.dam(6, true), Check.UNKNOWN);
        check.due("dam(-1, true)", x.dam(-1, true), Check.UNKNOWN);
        check.due("dam(0, false)", x.dam(0, false), Check.NOT);
        check.due("told(16)", x.told(16), 5);
    }

    // Promise 14
    private static void smooth() {
        BeckTalk x = Check.with(Check.FIVE);
        check.due("smooth(4)", x.smooth(4), 4);
        check.due("smooth(4)", x.smooth(4), 0);
        check.due("smooth(0)", x.smooth(0), Check.NOT);
        check.due("smooth(6)", x.smooth(6), Check.UNKNOWN);
        check.due("smooth(-1)", x.smooth(-1), Check.UNKNOWN);
        check.due("told(16)", x.told(16), 2);
        x.say(4, 0);
        x.hour(1);
        check.due("a smoothed fall garbles nothing", x.farm(0, 4), 0);
        check.due("becomes(4, 0, 0)", x.becomes(4, 0, 0), 0);
    }

    // Promise 15
    private static void hush() {
        BeckTalk x = Check.with(Check.FIVE);
        x.say(1, 0);
        x.say(2, 1);
        x.say(3, 2);
        check.due("hush(3)", x.hush(3), Check.UNKNOWN);
        check.due("hush(-1)", x.hush(-1), Check.UNKNOWN);
        check.due("hush(1)", x.hush(1), 2);
        check.due("talk(0, 0)", x.talk(0, 0), 0);
        check.due("talk(1, 0)", x.talk(1, 0), 2);
        check.due("talk(1, 1)", x.talk(1, 1), 3);
        check.due("talk(1, 2)", x.talk(1, 2), 12);
        check.due("talk(1, 3)", x.talk(1, 3), 3);
        check.due("hush(1)", x.hush(1), 1);
        check.due("hush(0)", x.hush(0), 0);
        check.due("hush(0)", x.hush(0), Check.UNKNOWN);
        check.due("nobody heard", x.told(13), 0);
    }

    // Promise 16
    private static void drift() {
        BeckTalk x = Check.with(Check.FIVE);
        check.due("drift(0)", x.drift(0), Check.OUTSIDE);
        check.due("drift(61)", x.drift(61), Check.OUTSIDE);
        check.due("drift(61) without a dale", new BeckTalk().drift(61), Check.OUTSIDE);
        check.due("drift(60) without a dale", new BeckTalk().drift(60), Check.NOT);
        check.due("the seed of refused ones", x.seed(0), 0);
        check.due("told(3)", x.told(3), 0);
    }

    private static long next(long seed) {
        return (seed * 1103515245L + 12345L) % 2147483648L;
    }

    // Each draw is done by hand here, by the calls that do the same.
    private static void driftByHand() {
        String[] dales = {Check.FIVE, "b9 0;", "b2 9;f0 9 1 1;", "b3 1;f0 9 1 1;f0 9 2 1;"};
        for (int n = 0; n < 40; n++) {
            String dale = dales[n % dales.length];
            BeckTalk x = Check.with(dale);
            BeckTalk y = Check.with(dale);
            int first = n < 4 ? Integer.MAX_VALUE - n : n * 7919;
            x.seed(first);
            long seed = first;
            for (int h = 0; h < 60; h++) {
                seed = next(seed);
                long kind = seed / 65536 % 5;
                if (kind == 0) {
                    seed = next(seed);
                    y.rain((int) (seed / 65536 % 10));
                } else if (kind == 1 && y.told(1) > 1) {
                    seed = next(seed);
                    int a = (int) (seed / 65536 % (y.told(1) - 1)) + 1;
                    seed = next(seed);
                    y.say(a, (int) (seed / 65536 % y.told(0)));
                } else if (kind == 2) {
                    y.frost(y.told(5) == 0);
                }
                y.hour(1);
            }
            check.due("drift(60)", x.drift(60), y.told(7));
            check.due("the seed behind drift(60)", x.seed(0), seed);
            check.due("told(16) behind drift(60)", x.told(16), 1);
            x.keep(0);
            y.keep(0);
            check.same("all behind drift(60) by seed " + first, Check.all(x), Check.all(y));
        }
    }

    // Promise 17
    private static void undo() {
        BeckTalk x = Check.with(Check.FIVE);
        check.due("undo() of none", x.undo(), Check.NOT);
        String[] was = new String[20];
        for (int n = 0; n < 20; n++) {
            was[n] = Check.allButUndoing(x);
            x.say(1 + n % 5, n % 5);
            if (n % 3 == 2) {
                x.undo();
                x.hour(2);
            }
            check.due("told(16)", x.told(16), Math.min(16, n + 1));
        }
        for (int n = 19; n >= 4; n--) {
            check.due("undo()", x.undo(), n - 4);
            check.same("what is undone to " + n, Check.allButUndoing(x), was[n]);
        }
        check.due("undo() of none", x.undo(), Check.NOT);
        check.same("the oldest are lost", Check.allButUndoing(x), was[4]);
    }

    private static void undoEach() {
        for (int kind = 0; kind < 8; kind++) {
            BeckTalk x = Check.with(Check.FIVE);
            x.say(2, 0);
            x.say(4, 0);
            x.hour(1);
            x.keep(0);
            x.see(1, 2);
            x.write(1, 0);
            String ahead = Check.all(x);
            x.seed(kind);
            act(x, kind);
            check.due("told(16) behind kind " + kind, x.told(16), 1);
            check.due("kind " + kind + " changed something", Check.all(x).equals(ahead) ? 1 : 0, 0);
            x.see(2, 3);
            check.due("undo() of kind " + kind, x.undo(), 0);
            check.due("what is seen is not undone", x.told(14), 2);
            x.tear();
            x.see(1, 2);
            x.write(1, 0);
            check.same("all with kind " + kind + " undone", Check.all(x), ahead);
            if (kind != 7) {
                check.due("the seed", x.seed(0), kind);
            }
        }
        BeckTalk x = Check.with(Check.FIVE);
        x.drift(1);
        x.undo();
        check.due("the seed is not undone", x.seed(0) == 0 ? 1 : 0, 0);
    }

    private static void act(BeckTalk x, int kind) {
        switch (kind) {
            case 0: x.hour(9); break;
            case 1: x.say(3, 1); break;
            case 2: x.rain(8); break;
            case 3: x.frost(true); break;
            case 4: x.dam(1, true); break;
            case 5: x.smooth(3); break;
            case 6: x.hush(0); break;
            default: x.drift(30); break;
        }
    }
}
