/** Compares answers with what is due, and tells at the end whether all were right. */
final class Check {
    static final int NONE = -1;
    static final int UNKNOWN = -1000000001;
    static final int OUTSIDE = -1000000002;
    static final int NOT = -1000000003;
    static final int FULL = -1000000004;

    // Five farms but the estuary: 5 runs down to 3, 3 and 2 to 1, 1 and 4 to the estuary.
    static final String FIVE = "b5 4;f0 2 1 2;f1 1 3 0;f1 3 2 1;f0 1 4 3;f3 1 0 0;";

    private final String name;
    private int asked;
    private int wrong;

    Check(String name) {
        this.name = name;
    }

    void due(String call, long got, long want) {
        asked++;
        if (got != want) {
            wrong++;
            System.out.println(name + ": " + call + " answered " + got + ", due is " + want);
        }
    }

    void end() {
        System.out.println(name + ": " + asked + " answers, " + wrong + " wrong");
        if (wrong != 0 || asked == 0) {
            System.exit(1);
        }
    }

    static BeckTalk feed(BeckTalk x, String text) {
        for (int i = 0; i < text.length(); i++) {
            x.feed(text.charAt(i));
        }
        return x;
    }

    /** A new object with this dale. */
    static BeckTalk with(String text) {
        BeckTalk x = feed(new BeckTalk(), text);
        int farms = x.dale();
        if (farms < 0) {
            throw new IllegalArgumentException(text + " has the fault " + farms + " at " + x.fault());
        }
        return x;
    }

    /** All that can be asked of an object without changing it, as one text. */
    static String all(BeckTalk x) {
        StringBuilder s = new StringBuilder();
        for (int what = 0; what <= 16; what++) {
            s.append(x.told(what)).append(' ');
        }
        s.append("fault ").append(x.fault());
        for (int a = 0; a < 9; a++) {
            s.append(" farm");
            for (int what = 0; what < 6; what++) {
                s.append(' ').append(x.farm(a, what));
            }
        }
        for (int i = 0; i < 12; i++) {
            s.append(" talk");
            for (int what = 0; what < 4; what++) {
                s.append(' ').append(x.talk(i, what));
            }
        }
        for (int i = 0; i < 20; i++) {
            s.append(" log");
            for (int what = 0; what < 4; what++) {
                s.append(' ').append(x.logged(i, what));
            }
        }
        s.append(" falls ").append(x.falls(0)).append(' ').append(x.falls(1));
        s.append(" judge ").append(x.judge());
        return s.toString();
    }

    /** All but how many can be undone, which undoing itself changes. */
    static String allButUndoing(BeckTalk x) {
        return all(x).replaceFirst("^((-?\\d+ ){16})-?\\d+ ", "$1");
    }

    void same(String call, String got, String want) {
        asked++;
        if (!got.equals(want)) {
            wrong++;
            System.out.println(name + ": " + call + " is\n  " + got + ", due is\n  " + want);
        }
    }
}
