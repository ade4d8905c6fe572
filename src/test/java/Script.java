import java.lang.reflect.InvocationTargetException;
import java.lang.reflect.Method;
import java.util.ArrayList;
import java.util.List;
import java.util.function.Consumer;

/**
 * A sentence of the document as a run of calls on a new object: 'say(1,0)=1 hour(61)=OUTSIDE' tells
 * each call and what is due; without '=' the answer is not looked at. '3*say(1,0)' is done three
 * times; '<b2_1;>' feeds these letters, with _ for a blank.
 *
 * Behind each run a second object is given the same calls without the refused ones. Both must then
 * be alike in all that can be asked, undone, gone back to or read from the text: what is refused
 * changes nothing.
 */
final class Script {
    private static final int MOST_CALLS = 512;

    private final Check check;
    private final String sentence;
    private final List<Call> calls = new ArrayList<>();

    private Script(Check check, String sentence, String run) {
        this.check = check;
        this.sentence = sentence;
        for (String part : run.trim().split("\\s+")) {
            read(part);
        }
    }

    /** Runs the calls behind the dale that the text tells; without a text there is no dale. */
    static void run(Check check, String sentence, String dale, String calls) {
        String told = dale == null ? "" : "<" + dale.replace(' ', '_') + "> dale() ";
        new Script(check, sentence, told + calls).run();
    }

    private void read(String part) {
        if (part.startsWith("<")) {
            for (char letter : part.substring(1, part.length() - 1).toCharArray()) {
                calls.add(new Call("feed", new Object[] {letter == '_' ? 32 : (int) letter}, null));
            }
            return;
        }
        int star = part.indexOf('*');
        int times = star < 0 ? 1 : Integer.parseInt(part.substring(0, star));
        String[] sides = part.substring(star + 1).split("=");
        int open = sides[0].indexOf('(');
        String inside = sides[0].substring(open + 1, sides[0].length() - 1);
        String[] words = inside.isEmpty() ? new String[0] : inside.split(",");
        Object[] given = new Object[words.length];
        for (int i = 0; i < given.length; i++) {
            given[i] = words[i].equals("true") || words[i].equals("false") ? (Object) Boolean.valueOf(words[i])
                : (Object) number(words[i]);
        }
        for (int n = 0; n < times; n++) {
            calls.add(new Call(sides[0].substring(0, open), given, sides.length > 1 ? number(sides[1]) : null));
        }
    }

    private static Integer number(String word) {
        switch (word) {
            case "NONE": return Check.NONE;
            case "UNKNOWN": return Check.UNKNOWN;
            case "OUTSIDE": return Check.OUTSIDE;
            case "NOT": return Check.NOT;
            case "FULL": return Check.FULL;
            case "LEAST": return Integer.MIN_VALUE;
            case "MOST": return Integer.MAX_VALUE;
            default: return Integer.valueOf(word);
        }
    }

    private void run() {
        Subject x = new Subject();
        List<Call> kept = new ArrayList<>();
        for (int i = 0; i < calls.size(); i++) {
            Call call = calls.get(i);
            int got = x.answer(call);
            if (call.due != null) {
                check.due(sentence + ": call " + (i + 1) + ", " + call, got, call.due);
            }
            if (got > Check.UNKNOWN) {
                kept.add(call);
            }
        }
        if (kept.size() < calls.size()) {
            alikeBehind(kept, x.ask("told", 16));
        }
    }

    // Each look at what is left takes an object of its own, so that none is used for too many calls.
    private void alikeBehind(List<Call> kept, int undone) {
        alike(kept, "now", x -> { });
        for (int n = 1; n <= undone; n++) {
            int times = n;
            alike(kept, n + " undone", x -> {
                for (int k = 0; k < times; k++) {
                    x.ask("undo");
                }
            });
        }
        alike(kept, "image 0", x -> x.ask("goBack", 0));
        alike(kept, "image 1", x -> x.ask("goBack", 1));
        alike(kept, "the text read", x -> x.ask("dale"));
    }

    private void alike(List<Call> kept, String when, Consumer<Subject> then) {
        check.same(sentence + ": what is refused changes nothing, " + when, left(calls, then), left(kept, then));
    }

    private static String left(List<Call> run, Consumer<Subject> then) {
        Subject x = new Subject();
        for (Call call : run) {
            x.answer(call);
        }
        then.accept(x);
        return x.all();
    }

    private static final class Call {
        final String name;
        final Object[] given;
        final Integer due;

        Call(String name, Object[] given, Integer due) {
            this.name = name;
            this.given = given;
            this.due = due;
        }

        @Override
        public String toString() {
            StringBuilder s = new StringBuilder(name).append('(');
            for (int i = 0; i < given.length; i++) {
                s.append(i == 0 ? "" : ", ").append(given[i]);
            }
            return s.append(')').toString();
        }
    }

    /** An object that is asked by the names of its calls, and for no more of them than are promised. */
    private static final class Subject {
        private final BeckTalk x = new BeckTalk();
        private int asked;

        int ask(String name, Object... given) {
            return answer(new Call(name, given, null));
        }

        int answer(Call call) {
            asked++;
            if (asked > MOST_CALLS) {
                throw new IllegalStateException("more calls than are promised");
            }
            Class<?>[] types = new Class<?>[call.given.length];
            for (int i = 0; i < types.length; i++) {
                types[i] = call.given[i] instanceof Boolean ? boolean.class : int.class;
            }
            try {
                Method method = BeckTalk.class.getMethod(call.name, types);
                return (Integer) method.invoke(x, call.given);
            } catch (NoSuchMethodException | IllegalAccessException | InvocationTargetException e) {
                throw new IllegalStateException(call.toString(), e);
            }
        }

        String all() {
            StringBuilder s = new StringBuilder("fault " + ask("fault") + " told");
            for (int what = 0; what <= 16; what++) {
                s.append(' ').append(ask("told", what));
            }
            rows(s, "farm", ask("told", 1), 6);
            rows(s, "talk", ask("told", 7), 4);
            rows(s, "logged", ask("told", 13), 4);
            s.append(" falls ").append(ask("falls", 0)).append(' ').append(ask("falls", 1));
            s.append(" tryNext ").append(ask("tryNext")).append(" judge ").append(ask("judge"));
            return s.append(" seed ").append(ask("seed", 0)).toString();
        }

        private void rows(StringBuilder s, String name, int rows, int cells) {
            for (int i = 0; i < rows; i++) {
                s.append(' ').append(name).append(i);
                for (int what = 0; what < cells; what++) {
                    s.append(' ').append(ask(name, i, what));
                }
            }
        }
    }
}
