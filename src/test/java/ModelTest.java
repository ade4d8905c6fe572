import java.lang.reflect.Method;
import java.util.ArrayList;
import java.util.Arrays;
import java.util.List;
import java.util.Random;

/** Many runs of calls, ordinary and wild, each answered by the class and by the model alike. */
public final class ModelTest {
    private static final Check check = new Check("ModelTest");
    private static final int RUNS = 4000;
    private static final int CALLS = 512;
    private static final int[] WILD = {Integer.MIN_VALUE, Integer.MIN_VALUE + 1, -1000000001, -2, -1, 9, 10, 12, 13, 16, 17,
        20, 31, 32, 33, 60, 61, 63, 64, 100, 101, 239, 240, 255, 256, 511, 512, 1000000000, Integer.MAX_VALUE - 1,
        Integer.MAX_VALUE};

    // How often a call comes, its name, and what it takes: a farm, a word, a talk, a set, none (or what
    // stands behind), a truth, or a number of these bounds.
    private static final String[] FACE = {
        "1 feed 0..255", "0 dale", "2 fault", "24 told 0..16", "4 farm farm 0..5", "4 talk talk 0..3",
        "4 logged 0..20 0..3", "14 hour 1..2", "4 hour 1..60", "22 say farm word", "7 rain 0..9", "5 frost truth",
        "6 dam farm truth", "1 smooth farm", "3 hush talk", "3 drift 1..60", "6 undo", "3 down farm", "3 up farm",
        "4 becomes farm farm word", "4 takes farm farm", "4 toSay farm farm word", "4 origin farm word none:farm",
        "4 privately set", "4 dams farm set", "3 willHear farm 0..12 0..1", "3 willHear farm 0..100 0..1",
        "3 where talk 0..12 0..1", "3 where talk 0..100 0..1", "1 dry 0..60 0..100", "4 see word word",
        "3 falls 0..1", "3 tryNext", "4 write farm none:word", "1 tear", "4 judge", "1 seed 0..2147483647",
        "1 keep 0..1", "1 goBack 0..1"};

    private static final List<String[]> LOTS = new ArrayList<>();

    public static void main(String[] args) throws ReflectiveOperationException {
        for (String line : FACE) {
            String[] call = line.split(" ");
            for (int n = 0; n < Integer.parseInt(call[0]); n++) {
                LOTS.add(call);
            }
        }
        for (int n = 0; n < RUNS; n++) {
            new ModelTest(n).run();
        }
        check.end();
    }

    private final int number;
    private final Random dice;
    private final BeckTalk x = new BeckTalk();
    private final Model m = new Model();
    private int calls;

    private ModelTest(int number) {
        this.number = number;
        this.dice = new Random(number);
    }

    // Some runs begin without a dale; all may tell another one on their way.
    private void run() throws ReflectiveOperationException {
        if (dice.nextInt(10) > 0) {
            tell();
        }
        while (calls < CALLS) {
            if (dice.nextInt(200) == 0) {
                tell();
            }
            String[] call = LOTS.get(dice.nextInt(LOTS.size()));
            Object[] given = new Object[call.length - 2];
            for (int i = 0; i < given.length; i++) {
                given[i] = given(call[i + 2]);
            }
            ask(call[1], given);
        }
        for (int what = 0; what <= 16; what++) {
            ask("told", what);
        }
    }

    private void tell() throws ReflectiveOperationException {
        String text = text();
        for (int i = 0; i < text.length(); i++) {
            ask("feed", (int) text.charAt(i));
        }
        ask("dale");
        ask("fault");
    }

    private void ask(String name, Object... given) throws ReflectiveOperationException {
        calls++;
        Class<?>[] types = new Class<?>[given.length];
        for (int i = 0; i < given.length; i++) {
            types[i] = given[i] instanceof Boolean ? boolean.class : int.class;
        }
        Method mine = BeckTalk.class.getMethod(name, types);
        Method model = Model.class.getDeclaredMethod(name, types);
        String call = "run " + number + ", call " + calls + ": " + name + Arrays.toString(given);
        check.due(call, (Integer) mine.invoke(x, given), (Integer) model.invoke(m, given));
    }

    private Object given(String kind) {
        if (kind.startsWith("none:")) {
            return dice.nextInt(3) == 0 ? (Object) Check.NONE : given(kind.substring(5));
        }
        switch (kind) {
            case "truth": return dice.nextInt(3) == 0;
            case "farm": return number(0, Math.max(0, m.told(1) - 1));
            case "word": return number(0, Math.max(0, m.told(0) - 1));
            case "talk": return number(0, Math.max(0, m.told(7) - 1));
            case "set": return number(0, (1 << m.told(1)) - 1) & (dice.nextBoolean() ? -1 : dice.nextInt());
            default: break;
        }
        int dots = kind.indexOf("..");
        return number(Integer.parseInt(kind.substring(0, dots)), Integer.parseInt(kind.substring(dots + 2)));
    }

    private int number(int least, int most) {
        int luck = dice.nextInt(50);
        if (luck == 0) {
            return WILD[dice.nextInt(WILD.length)];
        }
        if (luck == 1) {
            return dice.nextBoolean() ? least - 1 : most + 1;
        }
        return (int) (least + (long) (dice.nextDouble() * ((long) most - least + 1)));
    }

    private String text() {
        if (dice.nextInt(20) == 0) {
            return " ".repeat(dice.nextInt(3));
        }
        int words = 2 + dice.nextInt(8);
        StringBuilder s = new StringBuilder("b" + words + " " + dice.nextInt(10) + ";");
        int farms = dice.nextInt(9);
        boolean deep = dice.nextBoolean();
        for (int a = 1; a <= farms; a++) {
            int to = deep ? a - 1 - dice.nextInt(Math.min(a, 2)) : dice.nextInt(a);
            int far = dice.nextBoolean() ? 1 : 1 + dice.nextInt(9);
            s.append("f" + to + " " + far + " " + dice.nextInt(5) + " " + dice.nextInt(words) + ";");
        }
        int harm = dice.nextInt(4) > 0 ? 0 : 1 + dice.nextInt(2);
        for (int n = 0; n < harm; n++) {
            harm(s);
        }
        return s.toString();
    }

    private void harm(StringBuilder s) {
        String signs = "bf; 0123456789x";
        char sign = signs.charAt(dice.nextInt(signs.length()));
        int at = dice.nextInt(s.length() + 1);
        int kind = dice.nextInt(4);
        if (kind == 0) {
            s.insert(at, sign);
        } else if (kind == 1 && at < s.length()) {
            s.setCharAt(at, sign);
        } else if (kind == 2 && at < s.length()) {
            s.deleteCharAt(at);
        } else {
            s.setLength(Math.max(1, at));
        }
    }
}
