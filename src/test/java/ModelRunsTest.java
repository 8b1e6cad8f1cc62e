import java.lang.reflect.InvocationTargetException;
import java.lang.reflect.Method;
import java.util.ArrayList;
import java.util.HashMap;
import java.util.List;
import java.util.Map;

/**
 * Runs of calls, the same ones each time, on a SpeechKeeper and on the Model: each answer and each exception
 * must be the same. The number of runs can be told as an argument.
 */
public final class ModelRunsTest {
    private static final String[] WORDS = {"a", "b", "c", "dd", "one", "two", "base", "eighteen"};
    private static final String[] NOISE = {";", "/", " ", "\n", "A", "1", "ninechars", "one", "two", "base",
        "a", "b", "-", "\u0000", "\u00ff", "`", "{", " a b c d e f g h ", "a/b/c/d/e/f/g/h/i/j"};
    private static final int[] FAR = {Integer.MIN_VALUE, Integer.MAX_VALUE, Integer.MIN_VALUE + 1, 1 << 30, -65536};
    private static final Map<String, Method> OF_KEEPER = methods(SpeechKeeper.class);
    private static final Map<String, Method> OF_MODEL = methods(Model.class);

    private final SpeechKeeper keeper = new SpeechKeeper();
    private final Model model = new Model();
    private final List<String> calls = new ArrayList<>();
    private long seed;
    private int words;
    private int wordsOfLine;
    private int changes;
    private boolean isRight = true;

    private ModelRunsTest(int run) {
        seed = run * 7919L + 17;
        words = 1 + below(WORDS.length);
        wordsOfLine = 1 + below(below(3) == 0 ? 8 : 3);
        changes = below(25);
    }

    private static Map<String, Method> methods(Class<?> of) {
        Map<String, Method> found = new HashMap<>();
        for (Method method : of.getDeclaredMethods()) {
            if (!method.getName().equals("clashes") || method.getParameterCount() == 0) {
                found.put(method.getName(), method);
            }
        }
        return found;
    }

    private int below(int bound) {
        seed = seed * 6364136223846793005L + 1442695040888963407L;
        return (int) ((seed >>> 33) % bound);
    }

    public static void main(String[] args) {
        int runs = args.length > 0 ? Integer.parseInt(args[0]) : 300;
        int first = args.length > 1 ? Integer.parseInt(args[1]) : 0;
        int wrong = 0;
        for (int run = first; run < first + runs; run++) {
            ModelRunsTest test = new ModelRunsTest(run);
            test.run();
            wrong += test.isRight ? 0 : 1;
        }
        System.out.println(runs + " runs beside the model, wrong: " + wrong);
        if (wrong > 0) {
            System.exit(1);
        }
    }

    private void run() {
        for (int step = 0; step < 150 && isRight; step++) {
            if (step == 0 && below(8) > 0 || below(60) == 0) {
                tellSetup();
            } else if (below(4) > 0) {
                change();
            } else {
                ask();
            }
            if (below(6) == 0) {
                same("checksum");
            }
        }
        for (int what = 0; what <= 12 && isRight; what++) {
            same("size", what);
        }
    }

    // ---- calls on both

    private void same(String name, Object... args) {
        if (!isRight) {
            return;
        }
        Object got = answer(OF_KEEPER.get(name), keeper, args);
        Object due = name.equals("append") ? answer(OF_MODEL.get(name), model, new Object[] {fours(args)})
            : answer(OF_MODEL.get(name), model, args);
        calls.add(name + List.of(args) + " = " + got);
        if (!got.equals(due)) {
            isRight = false;
            calls.forEach(System.out::println);
            System.out.println("due is " + due);
        }
    }

    private static int[] fours(Object[] args) {
        int[] fours = new int[args.length];
        for (int i = 0; i < fours.length; i++) {
            fours[i] = (Integer) args[i];
        }
        return fours;
    }

    private static Object answer(Method method, Object on, Object[] args) {
        try {
            return method.invoke(on, args);
        } catch (InvocationTargetException e) {
            return e.getCause().getClass().getName();
        } catch (IllegalAccessException e) {
            throw new IllegalStateException(e);
        }
    }

    private void append(String text) {
        StringBuilder padded = new StringBuilder(text);
        while (padded.length() % 20 != 0) {
            padded.append(' ');
        }
        for (int at = 0; at < padded.length(); at += 20) {
            Object[] fours = new Object[5];
            for (int i = 0; i < 5; i++) {
                int four = 0;
                for (int k = 0; k < 4; k++) {
                    four = four << 8 | padded.charAt(at + 4 * i + k) & 255;
                }
                fours[i] = four;
            }
            same("append", fours);
        }
    }

    // ---- what is told

    private String word() {
        return WORDS[below(words)];
    }

    private List<String> line() {
        List<String> line = new ArrayList<>();
        for (int count = 1 + below(wordsOfLine); count > 0; count--) {
            line.add(word());
        }
        return line;
    }

    private String typed() {
        StringBuilder typed = new StringBuilder(String.join(below(4) == 0 ? "  " : " ", line()));
        switch (below(24)) {
            case 0 -> typed.append(" a b c d e f g");
            case 1 -> typed.append("ninechars");
            case 2 -> typed.insert(below(typed.length() + 1), NOISE[below(NOISE.length)]);
            case 3 -> typed.setLength(below(typed.length()));
            case 4 -> typed.insert(0, "  ").append("  ");
            default -> { }
        }
        return typed.toString();
    }

    private List<List<String>> text() {
        List<List<String>> text = new ArrayList<>();
        for (int count = below(below(3) == 0 ? 23 : 12); count > 0; count--) {
            text.add(line());
        }
        return text;
    }

    private List<List<String>> changed(List<List<String>> base) {
        List<List<String>> draft = new ArrayList<>(base);
        for (int count = below(2 + changes); count > 0; count--) {
            int at = below(draft.size() + 1);
            int kind = below(4);
            if (kind == 0 || draft.isEmpty() || at == draft.size()) {
                draft.add(at, line());
            } else if (kind == 1) {
                draft.remove(at);
            } else if (kind == 2) {
                draft.set(at, line());
            } else {
                draft.add(below(draft.size()), draft.remove(at));
            }
        }
        return draft;
    }

    private static String told(String name, List<List<String>> text) {
        List<String> lines = new ArrayList<>();
        text.forEach(line -> lines.add(String.join(" ", line)));
        return name + " " + String.join("/", lines) + ";";
    }

    private void tellSetup() {
        List<List<String>> base = text();
        StringBuilder setup = new StringBuilder(told("base", base));
        if (below(6) > 0) {
            setup.append(told("one", changed(base)));
        }
        if (below(6) > 0) {
            setup.append(told("two", changed(base)));
        }
        for (int noise = below(3) == 0 ? 1 + below(3) : 0; noise > 0; noise--) {
            setup.insert(below(setup.length() + 1), NOISE[below(NOISE.length)]);
        }
        same("parse", below(2));
        int most = Math.min(setup.length(), 700);
        append(setup.substring(0, most));
        same("parse", below(8) == 0 ? below(most + 3) : most);
    }


    private int number(int most) {
        if (below(100) == 0) {
            return FAR[below(FAR.length)];
        }
        return below(20) == 0 ? below(most + 30) - 15 : below(most + 1);
    }

    private int lines(int text) {
        Object lines = answer(OF_MODEL.get("size"), model, new Object[] {text});
        return Math.max((Integer) lines - 1, 0);
    }

    private int writer() {
        return number(1);
    }

    private int lineOf(int writer) {
        return number(writer == 0 || writer == 1 ? lines(1 + writer) : 5);
    }

    /** Types a line into an empty buffer, for a call that can take back a parse() of nothing. */
    private int type() {
        String typed = typed();
        if (!answer(OF_MODEL.get("size"), model, new Object[] {12}).equals(0)) {
            same("occurrences", 0, 1);
        }
        append(typed);
        return below(30) == 0 ? number(40) : typed.length();
    }

    // ---- single calls

    private void change() {
        int writer = writer();
        int line = lineOf(writer);
        switch (below(14)) {
            case 0, 1 -> same("insert", writer, below(4) == 0 ? line + 1 : line, type());
            case 2, 3 -> same("replace", writer, line, type());
            case 4 -> same("delete", writer, line);
            case 5 -> same("deleteWord", writer, line, number(1));
            case 6 -> same("move", writer, line, lineOf(writer));
            case 7 -> same("takeBack", writer, number(3));
            case 8, 9 -> same("decide", number(lines(7)), number(4));
            case 10 -> decideAll();
            case 11 -> changeMuch(writer);
            case 12 -> same("undo");
            default -> same("restoreSnapshot", number(1));
        }
    }

    private void decideAll() {
        for (int block = 0; block <= lines(7); block++) {
            same("decide", block, below(5));
        }
        same("checksum");
        if (below(2) == 0) {
            same("join");
        }
    }

    private void changeMuch(int writer) {
        switch (below(5)) {
            case 0 -> same("discard", writer);
            case 1 -> same("adopt", writer);
            case 2 -> same("join");
            default -> same("saveSnapshot", number(1));
        }
    }

    private void ask() {
        int writer = writer();
        int text = number(3);
        int line = number(text >= 0 && text <= 3 ? lines(text) : 5);
        int other = number(3);
        int otherLine = number(other >= 0 && other <= 3 ? lines(other) : 5);
        switch (below(20)) {
            case 0 -> same("size", number(12));
            case 1 -> same("line", text, line, number(1));
            case 2 -> same("letter", text, line, number(2), number(8));
            case 3 -> same("author", below(2) == 0, line, number(2));
            case 4 -> same("change", writer, number(2), number(4));
            case 5 -> same("meet", number(2), number(2));
            case 6 -> same("block", number(lines(7)), number(6));
            case 7 -> same("common", text, line, other, otherLine);
            case 8 -> same("common", text, -1, other, below(8) == 0 ? otherLine : -1);
            case 9 -> same("occurrences", text, Math.min(type(), 1 + below(9)));
            case 10 -> same("share", number(3));
            case 11 -> same("meanWords", text);
            case 12 -> same("safeLines", writer);
            case 13 -> same("wouldClash", writer, lineOf(writer));
            case 14, 15 -> same("fewestBack");
            case 16, 17 -> askWords();
            case 18 -> askReport(text);
            default -> same("checksum");
        }
    }

    private void askWords() {
        if (model.clashes() <= 5) {
            same("fewestWords");
            same("mostWords");
        }
    }

    private void askReport(int text) {
        same("report", text);
        for (int i = 0; i < 10; i++) {
            same("reportByte", number(60));
        }
    }
}
