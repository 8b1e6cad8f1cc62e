import java.util.ArrayList;
import java.util.List;

/** What the tests have in common: due answers, and texts told to a keeper and read from it. */
final class Checks {
    /** A call that may throw. */
    interface Call {
        Object answer();
    }

    private int wrong;
    private String of = "";

    void begin(String promise) {
        of = promise;
    }

    void due(Object want, Object got) {
        if (!want.equals(got)) {
            tellWrong("answered " + got + ", due is " + want);
        }
    }

    void refuses(Class<? extends RuntimeException> want, Call call) {
        Object got;
        try {
            got = call.answer();
        } catch (RuntimeException e) {
            got = e.getClass();
        }
        due(want, got);
    }

    private void tellWrong(String what) {
        wrong++;
        String at = "";
        for (StackTraceElement element : new Throwable().getStackTrace()) {
            boolean isHelper = List.of("tellWrong", "due", "refuses").contains(element.getMethodName());
            at = at.isEmpty() && !isHelper ? element.toString() : at;
        }
        System.out.println(of + ": " + what + " at " + at);
    }

    void end(String name) {
        System.out.println(name + ", wrong: " + wrong);
        if (wrong > 0) {
            System.exit(1);
        }
    }

    /** Appends a text, filled with blanks to full calls of append(); returns its length. */
    static int type(SpeechKeeper keeper, String text) {
        StringBuilder padded = new StringBuilder(text);
        while (padded.length() % 20 != 0) {
            padded.append(' ');
        }
        for (int at = 0; at < padded.length(); at += 20) {
            keeper.append(four(padded, at), four(padded, at + 4), four(padded, at + 8), four(padded, at + 12),
                four(padded, at + 16));
        }
        return text.length();
    }

    static int four(CharSequence text, int at) {
        int four = 0;
        for (int i = at; i < at + 4; i++) {
            four = four << 8 | text.charAt(i) & 255;
        }
        return four;
    }

    /** A new keeper with a setup. */
    static SpeechKeeper of(String setup) {
        SpeechKeeper keeper = new SpeechKeeper();
        if (keeper.parse(type(keeper, setup)) < 0) {
            throw new IllegalStateException("not a setup: " + setup);
        }
        return keeper;
    }

    /** The error of a setup as "offset code", or "no error". */
    static String error(String setup) {
        SpeechKeeper keeper = new SpeechKeeper();
        int answer = keeper.parse(type(keeper, setup));
        return answer >= 0 ? "no error" : (-2 - answer) / 8 + " " + (-2 - answer) % 8;
    }

    static String word(SpeechKeeper keeper, int text, int line, int word) {
        StringBuilder letters = new StringBuilder();
        for (int i = 0; keeper.letter(text, line, word, i) != 0; i++) {
            letters.append((char) ('a' - 1 + keeper.letter(text, line, word, i)));
        }
        return letters.toString();
    }

    /** A text as it is told in a setup. */
    static String text(SpeechKeeper keeper, int text) {
        List<String> lines = new ArrayList<>();
        for (int line = 0; line < keeper.size(text); line++) {
            List<String> words = new ArrayList<>();
            for (int word = 0; word < keeper.line(text, line, 0); word++) {
                words.add(word(keeper, text, line, word));
            }
            lines.add(String.join(" ", words));
        }
        return String.join("/", lines);
    }

    /** The authors of the BASE or of the JOINT text, line by line. */
    static String authors(SpeechKeeper keeper, boolean isJoint) {
        List<String> lines = new ArrayList<>();
        for (int line = 0; line < keeper.size(isJoint ? 3 : 0); line++) {
            StringBuilder authors = new StringBuilder();
            for (int word = 0; word < keeper.line(isJoint ? 3 : 0, line, 0); word++) {
                authors.append(keeper.author(isJoint, line, word));
            }
            lines.add(authors.toString());
        }
        return String.join("/", lines);
    }

    /** The numbers of a change or of a block from 0 on. */
    static String change(SpeechKeeper keeper, int writer, int change) {
        StringBuilder numbers = new StringBuilder();
        for (int what = 0; what <= 4; what++) {
            numbers.append(what == 0 ? "" : " ").append(keeper.change(writer, change, what));
        }
        return numbers.toString();
    }

    static String block(SpeechKeeper keeper, int block) {
        StringBuilder numbers = new StringBuilder();
        for (int what = 0; what <= 6; what++) {
            numbers.append(what == 0 ? "" : " ").append(keeper.block(block, what));
        }
        return numbers.toString();
    }

    static String report(SpeechKeeper keeper, int text) {
        StringBuilder bytes = new StringBuilder();
        int length = keeper.report(text);
        for (int i = 0; i < length; i++) {
            bytes.append((char) keeper.reportByte(i));
        }
        return bytes.toString();
    }

    /** Lines of one word each: a, b, c and so on. */
    static String lines(int count) {
        return lines(count, 'a');
    }

    static String lines(int count, char first) {
        List<String> lines = new ArrayList<>();
        for (int i = 0; i < count; i++) {
            lines.add(String.valueOf((char) (first + i)));
        }
        return String.join("/", lines);
    }
}
