/** Promises 29 to 37: what is seen, the book, draws and images. */
public final class SeenTest {
    private static final Check check = new Check("SeenTest");

    public static void main(String[] args) {
        see();
        falls();
        tryNext();
        write();
        tear();
        judge();
        seed();
        keepAndGoBack();
        imagesOfNoDale();
        check.end();
    }

    // Promise 29
    private static void see() {
        BeckTalk x = Check.with("b3 1;");
        check.due("see(3, 0)", x.see(3, 0), Check.UNKNOWN);
        check.due("see(0, 3)", x.see(0, 3), Check.UNKNOWN);
        check.due("see(-1, 0)", x.see(-1, 0), Check.UNKNOWN);
        check.due("see(0, -1)", x.see(0, -1), Check.UNKNOWN);
        for (int n = 1; n <= 6; n++) {
            check.due("see(2, 1)", x.see(2, 1), n);
        }
        check.due("see(2, 1) the 7th time", x.see(2, 1), Check.FULL);
        check.due("see(3, 1) the 7th time", x.see(3, 1), Check.UNKNOWN);
        check.due("told(14)", x.told(14), 6);
        check.due("told(16)", x.told(16), 0);
    }

    // Promise 30
    private static void falls() {
        for (int w = 2; w <= 9; w++) {
            BeckTalk x = Check.with("b" + w + " 9;");
            check.due("falls(0) of " + w + " words", x.falls(0), 3 * w - 1);
            check.due("falls(1) of " + w + " words", x.falls(1), 0);
        }
        BeckTalk x = Check.with("b4 9;");
        check.due("falls(2)", x.falls(2), Check.OUTSIDE);
        check.due("falls(-1)", x.falls(-1), Check.OUTSIDE);
        x.see(3, 2);
        // 13, 22
        check.due("falls(0)", x.falls(0), 2);
        check.due("falls(1)", x.falls(1), 13);
        x.see(1, 1);
        check.due("falls(0)", x.falls(0), 1);
        check.due("falls(1)", x.falls(1), 22);
        x.see(1, 2);
        check.due("falls(0)", x.falls(0), 0);
        check.due("falls(1)", x.falls(1), Check.NONE);
        // Two words: 0, 11, 20, 30, 41; 11 and 30 do the same.
        BeckTalk two = Check.with("b2 9;");
        two.see(0, 1);
        check.due("falls(0), laughter and the like", two.falls(0), 3);
        two.see(1, 0);
        check.due("falls(0), laughter and its like", two.falls(0), 2);
        check.due("falls(1), laughter and its like", two.falls(1), 11);
        check.due("tryNext(), laughter and its like", two.tryNext(), Check.NONE);
        check.due("falls(2) without a dale", new BeckTalk().falls(2), Check.OUTSIDE);
        check.due("falls(0) without a dale", new BeckTalk().falls(0), 0);
        check.due("falls(1) without a dale", new BeckTalk().falls(1), Check.NONE);
        onlyOne(0, "b5 1;", new int[] {0, 0, 4, 4, 1, 1});
        onlyOne(30, "b5 1;", new int[] {0, 4, 4, 0});
        onlyOne(41, "b5 1;", new int[] {0, 1, 1, 1});
        onlyOne(48, "b9 1;", new int[] {0, 8, 7, 8});
        onlyOne(27, "b9 1;", new int[] {8, 7, 0, 0});
    }

    private static void onlyOne(int fall, String dale, int[] seen) {
        BeckTalk x = Check.with(dale);
        for (int i = 0; i + 1 < seen.length; i += 2) {
            x.see(seen[i], seen[i + 1]);
        }
        check.due("falls(1) for " + fall, x.falls(1), fall);
        check.due("falls(0) for " + fall, x.falls(0), 1);
        check.due("tryNext() for " + fall, x.tryNext(), Check.NONE);
    }

    // Promise 31
    private static void tryNext() {
        check.due("tryNext() without a dale", new BeckTalk().tryNext(), Check.NONE);
        BeckTalk x = Check.with("b4 9;");
        // Of 0 11 12 13 20 21 22 30 41 42 43 by word 0: 0 1 2 3 0 0 0 3 1 2 3: the greatest part is 4;
        // by word 1: 1 2 3 0 0 1 1 2 1 2 3: 4; by word 2 (0 1 2 3): 2 3 0 1 0 1 2 1 2 2 3: 4;
        // by word 3: 3 0 1 2 0 1 2 0 3 3 3: 4.
        check.due("tryNext() of all", x.tryNext(), 0);
        x.see(0, 0);
        // Of 0 20 21 22 by word 1: 1 0 1 1; by word 2: 2 0 1 2; by word 3: 3 0 1 2.
        check.due("tryNext() of platitudes", x.tryNext(), 3);
        x.see(3, 3);
        check.due("tryNext() of one", x.tryNext(), Check.NONE);
        x.see(3, 2);
        check.due("tryNext() of none", x.tryNext(), Check.NONE);
        x.tear();
        x.see(3, 3);
        // Of 0 41 42 43 by word 0: 0 1 2 3.
        check.due("tryNext() of shouting", x.tryNext(), 0);
        x.tear();
        x.see(2, 1);
        // Of 13 21 30 by word 0: 3 0 3; by word 1: 0 1 2.
        check.due("tryNext() of three", x.tryNext(), 1);
    }

    // Promise 32
    private static void write() {
        BeckTalk x = Check.with(Check.FIVE);
        check.due("write(6, 0)", x.write(6, 0), Check.UNKNOWN);
        check.due("write(-1, 0)", x.write(-1, 0), Check.UNKNOWN);
        check.due("write(0, 5)", x.write(0, 5), Check.UNKNOWN);
        check.due("write(0, -2)", x.write(0, -2), Check.UNKNOWN);
        for (int n = 1; n <= 15; n++) {
            check.due("write(0, " + (n % 6 - 1) + ")", x.write(n % 6, n % 6 - 1), n);
        }
        check.due("write(0, 0) the 16th time", x.write(0, 0), Check.FULL);
        check.due("write(0, 5) the 16th time", x.write(0, 5), Check.UNKNOWN);
        check.due("told(15)", x.told(15), 15);
        check.due("told(16)", x.told(16), 0);
    }

    // Promise 33
    private static void tear() {
        BeckTalk x = Check.with(Check.FIVE);
        check.due("tear() of nothing", x.tear(), 0);
        x.see(0, 1);
        x.see(0, 2);
        x.write(0, 1);
        x.write(0, 1);
        x.write(0, 1);
        check.due("tear()", x.tear(), 5);
        check.due("told(14)", x.told(14), 0);
        check.due("told(15)", x.told(15), 0);
        check.due("falls(0)", x.falls(0), 14);
        check.due("judge()", x.judge(), Check.NONE);
        check.due("tear() without a dale", new BeckTalk().tear(), 0);
    }

    // Promise 34
    private static void judge() {
        BeckTalk x = Check.with(Check.FIVE);
        check.due("judge() of nothing", x.judge(), Check.NONE);
        x.write(5, -1);
        x.write(0, -1);
        x.write(1, -1);
        check.due("judge() at first", x.judge(), Check.NONE);
        x.say(2, 0);
        x.hour(1);
        check.due("judge() when 1 heard", x.judge(), 2);
        x.hour(2);
        check.due("judge() when 0 heard", x.judge(), 1);
        x.tear();
        x.write(0, 1);
        x.write(1, 4);
        check.due("judge() of what is so", x.judge(), Check.NONE);
        x.write(0, 2);
        check.due("judge() of what is not", x.judge(), 2);
        x.undo();
        check.due("judge() of what is undone", x.judge(), 0);
    }

    // Promise 35
    private static void seed() {
        BeckTalk x = new BeckTalk();
        check.due("seed(5)", x.seed(5), 0);
        check.due("seed(-1)", x.seed(-1), Check.OUTSIDE);
        check.due("seed(-2147483648)", x.seed(Integer.MIN_VALUE), Check.OUTSIDE);
        check.due("seed(2147483647)", x.seed(2147483647), 5);
        check.due("seed(0)", x.seed(0), 2147483647);
        Check.feed(x, "b2 0;");
        x.dale();
        // 12345 / 65536 is 0: a draw of 5 is 0, so there is a second one, of 10.
        x.drift(1);
        long second = (12345L * 1103515245L + 12345L) % 2147483648L;
        check.due("FLOW by the second draw", x.told(4), second / 65536 % 10);
        check.due("the seed behind two draws", x.seed(1), second);
    }

    // Promises 36 and 37
    private static void keepAndGoBack() {
        BeckTalk x = Check.with(Check.FIVE);
        check.due("keep(-1)", x.keep(-1), Check.UNKNOWN);
        check.due("keep(2)", x.keep(2), Check.UNKNOWN);
        check.due("goBack(-1)", x.goBack(-1), Check.UNKNOWN);
        check.due("goBack(2)", x.goBack(2), Check.UNKNOWN);
        check.due("goBack(0)", x.goBack(0), Check.NOT);
        check.due("goBack(1)", x.goBack(1), Check.NOT);
        x.say(2, 0);
        x.say(5, 4);
        x.hour(1);
        x.seed(11);
        check.due("told(16)", x.told(16), 3);
        check.due("keep(1)", x.keep(1), 1);
        check.due("told(16) behind keep(1)", x.told(16), 0);
        check.due("goBack(0), not kept", x.goBack(0), Check.NOT);
        String first = Check.all(x);
        x.drift(60);
        x.dam(1, true);
        x.smooth(2);
        x.frost(true);
        x.see(1, 1);
        x.write(0, 0);
        x.keep(0);
        String second = Check.all(x);
        int seed = x.seed(12);
        x.rain(3);
        x.hour(5);
        check.due("goBack(1)", x.goBack(1), 1);
        check.due("told(16) behind goBack(1)", x.told(16), 0);
        check.due("undo() behind goBack(1)", x.undo(), Check.NOT);
        check.due("what is seen stays", x.told(14), 1);
        check.due("the book stays", x.told(15), 1);
        check.due("the seed of image 1", x.seed(99), 11);
        x.tear();
        check.same("all of image 1", Check.all(x), first);
        x.see(1, 1);
        x.write(0, 0);
        check.due("goBack(0)", x.goBack(0), 1);
        check.due("the seed of image 0", x.seed(98), seed);
        check.same("all of image 0", Check.all(x), second);
        x.rain(0);
        check.due("goBack(0) again", x.goBack(0), 1);
        check.same("all of image 0 again", Check.all(x), second);
        x.keep(1);
        x.rain(9);
        x.goBack(1);
        check.same("all of image 1, kept again", Check.all(x), second);
    }

    private static void imagesOfNoDale() {
        BeckTalk x = new BeckTalk();
        check.due("goBack(0) without a dale", x.goBack(0), Check.NOT);
        x.seed(4);
        check.due("keep(0) without a dale", x.keep(0), 1);
        x.seed(5);
        check.due("goBack(0) without a dale", x.goBack(0), 1);
        check.due("the seed of image 0 without a dale", x.seed(6), 4);
        check.due("told(1) without a dale", x.told(1), 0);
    }
}
