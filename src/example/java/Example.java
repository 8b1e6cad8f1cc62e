/** Two writers change a speech; their clash is decided, and both drafts are laid together. */
public final class Example {
    public static void main(String[] args) {
        SpeechKeeper keeper = new SpeechKeeper();
        int bytes = type(keeper, "base dear friends/we meet here/thank you;"
            + "one dear friends/we part here/thank you/farewell;"
            + "two dear old friends/we sing here/thank you;");
        System.out.println("lines of the BASE: " + keeper.parse(bytes));
        System.out.println("changes: " + keeper.size(5) + " of the writer 0, " + keeper.size(6) + " of the writer 1");
        System.out.println("blocks: " + keeper.size(7) + ", clashes: " + keeper.size(8));
        System.out.println("join() while a clash is open: " + keeper.join());
        System.out.println("decided before: " + keeper.decide(0, 2));
        System.out.println("join(), lines: " + keeper.join());
        System.out.print(report(keeper, 0));
        System.out.println("undo(), calls left to undo: " + keeper.undo());
        System.out.println("insert(), lines of the draft: " + keeper.insert(1, 0, type(keeper, "good evening")));
        try {
            keeper.line(0, 9, 0);
        } catch (IndexOutOfBoundsException e) {
            System.out.println("line(): the BASE has no line 9");
        }
    }

    /** Appends a text to the input buffer, 20 bytes a call, with blanks behind it; tells its own length. */
    private static int type(SpeechKeeper keeper, String text) {
        for (int at = 0; at < text.length(); at += 20) {
            keeper.append(four(text, at), four(text, at + 4), four(text, at + 8), four(text, at + 12),
                four(text, at + 16));
        }
        return text.length();
    }

    private static int four(String text, int at) {
        int four = 0;
        for (int i = at; i < at + 4; i++) {
            four = four << 8 | (i < text.length() ? text.charAt(i) : ' ');
        }
        return four;
    }

    /** A text with its authors, as report() writes it. */
    private static String report(SpeechKeeper keeper, int text) {
        StringBuilder report = new StringBuilder();
        int bytes = keeper.report(text);
        for (int index = 0; index < bytes; index++) {
            report.append((char) keeper.reportByte(index));
        }
        return report.toString();
    }
}
