import java.util.ArrayList;
import java.util.List;
import java.util.NoSuchElementException;

/** Each sentence of the Terms that names a boundary, by a test of its own, on both sides of the boundary. */
public final class TermsTest {
    private static final Class<IllegalArgumentException> ILLEGAL = IllegalArgumentException.class;
    private static final Class<IndexOutOfBoundsException> ABSENT = IndexOutOfBoundsException.class;

    private static final String EIGHT_WORDS = "a b c d e f g h";

    private static final Checks CHECKS = new Checks();

    private static void of(String sentence) {
        CHECKS.begin(sentence);
    }

    private static void due(Object want, Object got) {
        CHECKS.due(want, got);
    }

    private static void refuses(Class<? extends RuntimeException> want, Checks.Call call) {
        CHECKS.refuses(want, call);
    }

    public static void main(String[] args) {
        words();
        lines();
        texts();
        equalLines();
        authorsAndRound();
        pairs();
        goneBeforeNew();
        restOfRows();
        emptyRows();
        changes();
        mostChanges();
        meetWithLines();
        meetAroundInsertions();
        meetOfInsertions();
        blocksAlone();
        blocksConnected();
        blockNumbers();
        sides();
        kinds();
        decisions();
        jointOfManyLines();
        largestJoint();
        largestText();
        openedAgain();
        keptDecisions();
        authorsOfBlocks();
        authorsOfDrafts();
        buffer();
        bytesOfSetup();
        bytesOfLine();
        grammar();
        earlyEnds();
        codes();
        smallestOffset();
        toldLines();
        emptiedBuffer();
        recordedCalls();
        refusedCalls();
        latestEight();
        thrownCalls();
        firstOfSeveral();
        textNumbers();
        toldAnew();
        manyCalls();
        CHECKS.end("TermsTest");
    }

    // ---- 1: speeches

    private static void words() {
        of("A word is a row of 1 to 8 letters a to z");
        SpeechKeeper keeper = Checks.of("base z abcdefgh;");
        due(1, keeper.size(0));
        due("z", Checks.word(keeper, 0, 0, 0));
        due("abcdefgh", Checks.word(keeper, 0, 0, 1));
        due(9, keeper.line(0, 0, 1));
        due("5 2", Checks.error("base abcdefghi;"));
        due(2, keeper.insert(0, 1, Checks.type(keeper, "zzzzzzzz")));
        due("zzzzzzzz", Checks.word(keeper, 1, 1, 0));
        due(ILLEGAL, typed("zzzzzzzzz"));
        // words are equal by all of their letters, the eighth too
        due(1, Checks.of("base abcdefgh;one abcdefgi;").size(5));
        due(1, Checks.of("base abcdefgh;one abcdefg;").size(5));
        due(0, Checks.of("base abcdefgh;one abcdefgh;").size(5));
    }

    private static void lines() {
        of("A line is a row of 1 to 8 words");
        due(8, Checks.of("base " + EIGHT_WORDS + ";").line(0, 0, 0));
        due("21 3", Checks.error("base " + EIGHT_WORDS + " i;"));
        due(1, Checks.of("base a;").line(0, 0, 0));
        due("7 1", Checks.error("base a/;"));
        due(2, typed(EIGHT_WORDS));
        due(ILLEGAL, typed(EIGHT_WORDS + " i"));
        due(2, typed("a"));
        due(ILLEGAL, typed(" "));
    }

    /** What insert() of these bytes into a draft of one line answers, or throws. */
    private static Object typed(String line) {
        SpeechKeeper keeper = Checks.of("base a;");
        int bytes = Checks.type(keeper, line);
        try {
            return keeper.insert(0, 0, bytes);
        } catch (RuntimeException e) {
            return e.getClass();
        }
    }

    private static void texts() {
        of("A text is a row of 0 to 20 lines, numbered from 0");
        SpeechKeeper empty = Checks.of("base;one;two;");
        SpeechKeeper full = Checks.of("base " + Checks.lines(20) + ";one " + Checks.lines(20, 'b') + ";two "
            + Checks.lines(20, 'c') + ";");
        for (int text = 0; text <= 2; text++) {
            int number = text;
            due(0, empty.size(text));
            refuses(ABSENT, () -> empty.line(number, 0, 0));
            due(20, full.size(text));
            due(1, full.letter(text, 0, 0, 0) - text);
            due(20, full.letter(text, 19, 0, 0) - text);
            refuses(ABSENT, () -> full.line(number, 20, 0));
            refuses(ABSENT, () -> full.line(number, -1, 0));
        }
        due("45 4", Checks.error("base " + Checks.lines(21) + ";"));
        due("51 4", Checks.error("base a;one " + Checks.lines(21) + ";"));
        due("51 4", Checks.error("base a;two " + Checks.lines(21) + ";"));
    }

    private static void equalLines() {
        of("Two lines are equal if they have the same words in the same order");
        due(0, Checks.of("base a b;one a b;").size(5));
        due(0, Checks.of("base a b;one  a \n b ;").size(5));
        due(1, Checks.of("base a b;one b a;").size(5));
        due(1, Checks.of("base a b;one a;").size(5));
        due(1, Checks.of("base a b;one a b b;").size(5));
        due(1, Checks.of("base a b;one ab;").size(5));
        due(1, Checks.of("base " + EIGHT_WORDS + ";one a b c d e f g g;").size(5));
    }

    private static void authorsAndRound() {
        of("Each word of the BASE has an author: 0 nobody, 1 the writer 0, 2 the writer 1, 3 both");
        SpeechKeeper keeper = Checks.of("base n/m;one x/n/z/m;two n/z/m/y;");
        due("x/n/z/m/y", Checks.text(keeper, 3));
        due(5, keeper.join());
        due("1/0/3/0/2", Checks.authors(keeper, false));
        of("ROUND is how often drafts were laid together");
        due(1, keeper.size(4));
        due(5, keeper.join());
        due(2, keeper.size(4));
        due(4, keeper.delete(0, 0));
        due(2, keeper.size(4));
    }

    // ---- 2: rows laid side by side

    private static void pairs() {
        of("if the things at i and j are equal, they are a pair");
        due(0, Checks.of("base a/b/c;one a/b/c;").size(5));
        due(3, Checks.of("base a/b/c;one a/b/c;").common(0, -1, 1, -1));
        // of equal lines, the first ones are the pair
        SpeechKeeper doubled = Checks.of("base a/b;one a/a/b/b;");
        due("1 1 1 2 0", Checks.change(doubled, 0, 0));
        due("2 2 3 4 1", Checks.change(doubled, 0, 1));
        due("1 2 1 1 0", Checks.change(Checks.of("base a/a/b;one a/b;"), 0, 0));
        due("01", Checks.authors(Checks.of("base a;one a a;"), true));
    }

    private static void goneBeforeNew() {
        of("if LONG(i + 1, j) is not less than LONG(i, j + 1), the thing at i is gone");
        SpeechKeeper same = Checks.of("base a/b;one b/a;");
        due("0 1 0 0 0", Checks.change(same, 0, 0));
        due("2 2 1 2 1", Checks.change(same, 0, 1));
        SpeechKeeper greater = Checks.of("base x/a/b;one a/b/x;");
        due("0 1 0 0 0", Checks.change(greater, 0, 0));
        due("3 3 2 3 1", Checks.change(greater, 0, 1));
        due("01", Checks.authors(Checks.of("base a b;one b a;"), true));
        of("otherwise the thing at j is new, and j grows by 1");
        SpeechKeeper less = Checks.of("base a/b/x;one x/a/b;");
        due("0 0 0 1 0", Checks.change(less, 0, 0));
        due("2 3 3 3 1", Checks.change(less, 0, 1));
        due("100", Checks.authors(Checks.of("base a b x;one x a b;"), true));
        // a row has each thing only once: one a of the draft is not a pair with all three of the BASE
        SpeechKeeper once = Checks.of("base p/c/a/a/a;one a/p/c;");
        due("0 0 0 1 0", Checks.change(once, 0, 0));
        due("2 5 3 3 1", Checks.change(once, 0, 1));
        SpeechKeeper twice = Checks.of("base a/p/c;one p/c/a/a/a;");
        due("0 1 0 0 0", Checks.change(twice, 0, 0));
        due("3 3 2 5 1", Checks.change(twice, 0, 1));
        // both have rows of two that are longest; a is gone, and then b a are pairs
        SpeechKeeper turned = Checks.of("base a/b/a;one b/a/b;");
        due("0 1 0 0 0", Checks.change(turned, 0, 0));
        due("3 3 2 3 1", Checks.change(turned, 0, 1));
    }

    private static void restOfRows() {
        of("What is left in the first row then is gone");
        due("1 3 1 1 0", Checks.change(Checks.of("base a/b/c;one a;"), 0, 0));
        due("19 20 19 19 0", Checks.change(Checks.of("base " + Checks.lines(20) + ";one " + Checks.lines(19) + ";"),
            0, 0));
        of("what is left in the second row is new");
        due("1 1 1 3 0", Checks.change(Checks.of("base a;one a/b/c;"), 0, 0));
        due("19 19 19 20 0", Checks.change(Checks.of("base " + Checks.lines(19) + ";one " + Checks.lines(20) + ";"),
            0, 0));
        due("0111", Checks.authors(Checks.of("base a;one a b c d;"), true));
    }

    private static void emptyRows() {
        of("As long as neither row is at its end");
        due("0 2 0 0 0", Checks.change(Checks.of("base a/b;one;"), 0, 0));
        due("0 0 0 2 0", Checks.change(Checks.of("base;one a/b;"), 0, 0));
        due(0, Checks.of("base;one;").size(5));
        due(0, Checks.of("base a/b;one;").common(0, -1, 1, -1));
        due(0, Checks.of("base;one a/b;").common(0, -1, 1, -1));
        due(0, new SpeechKeeper().common(0, -1, 3, -1));
    }

    // ---- 3: changes and blocks

    private static void changes() {
        of("a row of lines that are gone or new with no pair between them, as long as possible");
        SpeechKeeper one = Checks.of("base a/b/c/d;one a/x/y/z/d;");
        due(1, one.size(5));
        due("1 3 1 4 0", Checks.change(one, 0, 0));
        SpeechKeeper two = Checks.of("base a/b/c/d;one x/b/y/d;");
        due(2, two.size(5));
        due("0 1 0 1 0", Checks.change(two, 0, 0));
        due("2 3 2 3 1", Checks.change(two, 0, 1));
        SpeechKeeper whole = Checks.of("base " + Checks.lines(20) + ";one z;");
        due("0 20 0 1 0", Checks.change(whole, 0, 0));
        of("none of them if FROM is TO");
        SpeechKeeper ends = Checks.of("base a/b;one x/a/b/y;");
        due("0 0 0 1 0", Checks.change(ends, 0, 0));
        due("2 2 3 4 1", Checks.change(ends, 0, 1));
        // no line of the draft if START is END
        SpeechKeeper gone = Checks.of("base a/b/c;one b;");
        due("0 1 0 0 0", Checks.change(gone, 0, 0));
        due("2 3 1 1 1", Checks.change(gone, 0, 1));
    }

    /** As many changes as texts of 20 lines allow: 13 pairs with 7 lines gone and 7 new, none of which meet. */
    private static SpeechKeeper withMostChanges() {
        return Checks.of("base " + Checks.lines(20) + ";one b/d/f/h/j/l/n/u/o/u/p/u/q/u/r/u/s/u/t/u;"
            + "two v/a/v/b/v/c/v/d/v/e/v/f/v/g/i/k/m/o/q/s;");
    }

    private static void mostChanges() {
        of("The changes of a writer are numbered from 0 in their order");
        SpeechKeeper keeper = withMostChanges();
        due(14, keeper.size(5));
        due(14, keeper.size(6));
        due(28, keeper.size(7));
        due(20, keeper.size(3));
        due(0, keeper.fewestBack());
        for (int change = 0; change < 7; change++) {
            int gone = 2 * change;
            int place = 14 + change;
            int start = 7 + 2 * change;
            due(gone + " " + (gone + 1) + " " + change + " " + change, fourOf(keeper, 0, change));
            due(place + " " + place + " " + start + " " + (start + 1), fourOf(keeper, 0, change + 7));
            due(change + " " + change + " " + gone + " " + (gone + 1), fourOf(keeper, 1, change));
        }
        due("19 20 20 20 26", Checks.change(keeper, 1, 13));
        due("20 20 19 20 27", Checks.change(keeper, 0, 13));
        refuses(ABSENT, () -> keeper.change(0, 14, 0));
        refuses(ABSENT, () -> keeper.change(1, 14, 0));
        due("0 20 20 1 0 0 1", Checks.block(keeper, 27));
        refuses(ABSENT, () -> keeper.block(28, 0));
        due(20, keeper.join());
    }

    private static String fourOf(SpeechKeeper keeper, int writer, int change) {
        String five = Checks.change(keeper, writer, change);
        return five.substring(0, five.lastIndexOf(' '));
    }

    /** A draft of a/b/c/d/e with a row of its lines replaced by other ones. */
    private static String replaced(int from, int to, String by) {
        List<String> draft = new ArrayList<>(List.of("a", "b", "c", "d", "e"));
        draft.subList(from, to).clear();
        if (!by.isEmpty()) {
            draft.add(from, by);
        }
        return String.join("/", draft);
    }

    private static boolean meets(String zero, String one) {
        return Checks.of("base a/b/c/d/e;one " + zero + ";two " + one + ";").meet(0, 0);
    }

    private static void meetWithLines() {
        of("meet if they have a line of the BASE in common");
        for (int from = 0; from < 5; from++) {
            for (int to = from + 1; to <= 5; to++) {
                boolean isCommon = from < 4 && to > 2;
                due(isCommon, meets(replaced(from, to, "x"), replaced(2, 4, "y")));
                due(isCommon, meets(replaced(2, 4, "y"), replaced(from, to, "x")));
                due(isCommon, meets(replaced(from, to, ""), replaced(2, 4, "")));
            }
        }
    }

    private static void meetAroundInsertions() {
        of("its FROM is greater than the FROM and less than the TO of the other one");
        for (int place = 0; place <= 5; place++) {
            boolean isInside = place == 2 || place == 3;
            due(isInside, meets(replaced(place, place, "x"), replaced(1, 4, "y")));
            due(isInside, meets(replaced(1, 4, "y"), replaced(place, place, "x")));
            due(place > 0 && place < 5, meets(replaced(place, place, "x"), ""));
            due(false, meets(replaced(2, 3, ""), replaced(place, place, "x")));
        }
    }

    private static void meetOfInsertions() {
        of("if both have no line of the BASE and the same FROM");
        for (int place = 0; place <= 5; place++) {
            for (int other = 0; other <= 5; other++) {
                due(place == other, meets(replaced(place, place, "x"), replaced(other, other, "y")));
                due(place == other, meets(replaced(place, place, "x"), replaced(other, other, "x")));
            }
        }
        due(true, Checks.of("base;one x;two y;").meet(0, 0));
    }

    private static void blocksAlone() {
        of("A block is a set of changes: all that are connected");
        due(0, Checks.of("base a/b;").size(7));
        due(1, Checks.of("base a/b;one a;").size(7));
        // each on its own: side by side, they have no line in common
        SpeechKeeper beside = Checks.of("base a/b/c/d;one a/x/c/d;two a/b/y/d;");
        due(2, beside.size(7));
        due("0 1 2 1 1 0 1", Checks.block(beside, 0));
        due("1 2 3 1 1 0 1", Checks.block(beside, 1));
        due(2, Checks.of("base a/b/c;one a/b/x/c;two a/b/y;").size(7));
        due(2, Checks.of("base a/b/c;one a/x/b/c;two y/b/c;").size(7));
    }

    private static void blocksConnected() {
        of("connected by changes that meet, one after the other");
        // the first and the last change do not meet, but those between them do
        SpeechKeeper chain = Checks.of("base " + Checks.lines(10) + ";one x/d/x/h/x;two a/b/y/f/y/j;");
        due(3, chain.size(5));
        due(2, chain.size(6));
        due(false, chain.meet(0, 1));
        due(false, chain.meet(2, 0));
        due(1, chain.size(7));
        due("3 0 10 5 6 0 5", Checks.block(chain, 0));
        // a change of the one writer around two insertions of the other one
        SpeechKeeper around = Checks.of("base a/b/c/d/e;one a/x/e;two a/b/p/c/q/d/e;");
        due("3 1 4 1 5 0 3", Checks.block(around, 0));
        // insertions at both ends of it are blocks of their own
        SpeechKeeper ends = Checks.of("base a/b/c/d/e;one a/x/e;two a/p/b/c/d/q/e;");
        due("1 1 1 0 1 0 1", Checks.block(ends, 0));
        due("0 1 4 1 3 0 1", Checks.block(ends, 1));
        due("1 4 4 0 1 0 1", Checks.block(ends, 2));
        due("a/p/x/q/e", Checks.text(ends, 3));
    }

    private static void blockNumbers() {
        of("Blocks are numbered by their least FROM, of several the one with the lesser greatest TO first");
        SpeechKeeper zeroFirst = Checks.of("base a/b;one x/a/b;two y/b;");
        due("0 0 0 1 0 0 1", Checks.block(zeroFirst, 0));
        due("1 0 1 1 1 0 1", Checks.block(zeroFirst, 1));
        due(0, zeroFirst.change(0, 0, 4));
        due(1, zeroFirst.change(1, 0, 4));
        SpeechKeeper oneFirst = Checks.of("base a/b;one y/b;two x/a/b;");
        due("1 0 0 0 1 0 1", Checks.block(oneFirst, 0));
        due("0 0 1 1 1 0 1", Checks.block(oneFirst, 1));
        due(1, oneFirst.change(0, 0, 4));
        due(0, oneFirst.change(1, 0, 4));
        // the insertion at the FROM of a clash is no part of it, nor of its side
        SpeechKeeper clash = Checks.of("base a/b/c/d;one p/a/x/d;two y/d;");
        due("0 0 0 1 0 0 1", Checks.block(clash, 0));
        due("3 0 3 2 1 0 2", Checks.block(clash, 1));
    }

    private static void sides() {
        of("its changes that belong to the block are made, other lines of the BASE stay");
        SpeechKeeper keeper = Checks.of("base a/b/c/d/e/f;one p/a/x/c/d/e/f;two a/y/e/f/z;");
        // the insertion before and the one behind are no part of the block of b, c and d
        due("3 1 4 3 1 0 2", Checks.block(keeper, 1));
        due(0, keeper.decide(1, 1));
        due("p/a/x/c/d/e/f/z", Checks.text(keeper, 3));
        due(1, keeper.decide(1, 2));
        due("p/a/y/e/f/z", Checks.text(keeper, 3));
        due(2, keeper.decide(1, 3));
        due("p/a/x/c/d/y/e/f/z", Checks.text(keeper, 3));
        // lines before a block that the one writer has more or fewer of do not shift its side
        SpeechKeeper grown = Checks.of("base a/b/c/d/e;one a/b/c/x/e;two r/s/t/b/c/y/e;");
        due(0, grown.decide(1, 2));
        due("r/s/t/b/c/y/e", Checks.text(grown, 3));
        SpeechKeeper shrunk = Checks.of("base a/b/c/d/e;one d/x;two a/b/c/d/y;");
        due(0, shrunk.decide(1, 1));
        due("d/x", Checks.text(shrunk, 3));
        // a side without lines
        due("3 0 1 0 1 0 2", Checks.block(Checks.of("base a;one;two b;"), 0));
    }

    private static void kinds() {
        of("2 (agreed) if it has changes of both and its sides are equal, line by line; 3 (a clash) otherwise");
        due(2, Checks.of("base a/b;one a;two a;").block(0, 0));
        due(2, Checks.of("base a;one x/y;two x/y;").block(0, 0));
        due(2, Checks.of("base;one x;two x;").block(0, 0));
        due(3, Checks.of("base a;one x/y;two x;").block(0, 0));
        due(3, Checks.of("base a;one x;two x/y;").block(0, 0));
        due(3, Checks.of("base a;one x/y;two x/z;").block(0, 0));
        due(3, Checks.of("base a;one y/x;two z/x;").block(0, 0));
        due(3, Checks.of("base a;one x y;two x/y;").block(0, 0));
        due(3, Checks.of("base a;one;two x;").block(0, 0));
        // the one writer changed more: what the other one left stands on his side
        due(3, Checks.of("base a/b;one x/y;two x/b;").block(0, 0));
        of("The kind of a block is 0 or 1 if it has changes of this writer alone");
        due(0, Checks.of("base a/b;one a;").block(0, 0));
        due(1, Checks.of("base a/b;two a;").block(0, 0));
    }

    private static void decisions() {
        of("0 open (at first), 1 the side of the writer 0, 2 of the writer 1, 3 both sides, 4 the lines of the BASE");
        SpeechKeeper keeper = Checks.of("base a/b/c;one a/x/x/c;two a/c;");
        String[] texts = {"a/b/c", "a/x/x/c", "a/c", "a/x/x/c", "a/b/c"};
        for (int decision = 0; decision <= 4; decision++) {
            due(Math.max(0, decision - 1), keeper.decide(0, decision));
            due(decision, keeper.block(0, 5));
            due(decision == 0 ? 1 : 0, keeper.size(9));
            due(texts[decision], Checks.text(keeper, 3));
        }
        SpeechKeeper both = Checks.of("base b;one y;two x;");
        due(0, both.decide(0, 3));
        due("y/x", Checks.text(both, 3));
    }

    /** A JOINT text of 39 lines, the most there can be: 19 lines before the one of the BASE, and 19 behind it. */
    private static SpeechKeeper withLongJoint() {
        return Checks.of("base z;one " + Checks.lines(19) + "/z;two z/" + Checks.lines(19) + ";");
    }

    private static void jointOfManyLines() {
        of("It can have more than 20 lines; it is told all the same");
        SpeechKeeper keeper = withLongJoint();
        due(39, keeper.size(3));
        due(1, keeper.line(3, 38, 0));
        due(1, keeper.line(3, 38, 1));
        refuses(ABSENT, () -> keeper.line(3, 39, 0));
        due(26, keeper.letter(3, 19, 0, 0));
        due(1, keeper.letter(3, 20, 0, 0));
        due(19, keeper.letter(3, 38, 0, 0));
        due(1, keeper.author(true, 18, 0));
        due(0, keeper.author(true, 19, 0));
        due(2, keeper.author(true, 38, 0));
        refuses(ABSENT, () -> keeper.author(true, 39, 0));
        due(39, keeper.common(3, -1, 3, -1));
        due(20, keeper.common(3, -1, 2, -1));
        due(1, keeper.common(3, 38, 1, 18));
        due(2, keeper.occurrences(3, Checks.type(keeper, "s")));
        due(19.0f / 39.0f, keeper.share(2));
        due(1.0, keeper.meanWords(3));
        due(19 * 3 + 2 + 19 * 3, keeper.report(3));
        due((int) '2', keeper.reportByte(114));
        due(39, keeper.fewestWords());
        due(-1, keeper.mostWords());
        due(-1, keeper.join());
        due(sumOf(keeper), keeper.checksum());
    }

    /** The checksum by the other calls. */
    private static long sumOf(SpeechKeeper keeper) {
        long sum = 0;
        for (int what = 0; what <= 10; what++) {
            sum = 31 * sum + keeper.size(what);
        }
        for (int text = 0; text <= 3; text++) {
            for (int line = 0; line < keeper.size(text); line++) {
                sum = 31 * sum + keeper.line(text, line, 0);
                sum = 31 * sum + keeper.letter(text, line, 0, 0);
                sum = text % 3 == 0 ? 31 * sum + keeper.author(text == 3, line, 0) : sum;
            }
        }
        for (int block = 0; block < keeper.size(7); block++) {
            for (String number : Checks.block(keeper, block).split(" ")) {
                sum = 31 * sum + Integer.parseInt(number);
            }
        }
        return sum;
    }

    private static String wordOf(int number) {
        return "word" + (char) ('a' + number / 26 / 26) + (char) ('a' + number / 26 % 26)
            + (char) ('a' + number % 26) + "x";
    }

    private static String lineOf(int first) {
        StringBuilder line = new StringBuilder();
        for (int word = first; word < first + 8; word++) {
            line.append(word == first ? "" : " ").append(wordOf(word));
        }
        return line.toString();
    }

    /** 39 lines of 8 words of 8 letters. */
    private static void largestJoint() {
        SpeechKeeper keeper = new SpeechKeeper();
        due(1, keeper.insert(0, 0, Checks.type(keeper, lineOf(8 * 19))));
        due(1, keeper.join());
        for (int line = 0; line < 19; line++) {
            due(2 + line, keeper.insert(0, line, Checks.type(keeper, lineOf(8 * line))));
            due(2 + line, keeper.insert(1, line + 1, Checks.type(keeper, lineOf(8 * (20 + line)))));
        }
        due(39, keeper.size(3));
        due("8 64", keeper.line(3, 38, 0) + " " + keeper.line(3, 38, 1));
        due(wordOf(8 * 39 - 1), Checks.word(keeper, 3, 38, 7));
        due("1 2", keeper.author(true, 19, 0) + " " + keeper.author(true, 38, 7));
        due(160.0f / 312.0f, keeper.share(1));
        due(152.0f / 312.0f, keeper.share(2));
        due(8.0, keeper.meanWords(3));
        due(312, keeper.fewestWords());
        due(312 * 10, keeper.report(3));
        due("x2\n-1", "" + (char) keeper.reportByte(3117) + (char) keeper.reportByte(3118)
            + (char) keeper.reportByte(3119) + keeper.reportByte(3120));
        due(160 * 9, keeper.report(1));
    }

    /** All texts as large as can be: 20 lines of 8 words of 8 letters. */
    private static void largestText() {
        of("all words of the lines of the BASE of the block, as one row, and all words of the side, as one row");
        SpeechKeeper keeper = new SpeechKeeper();
        for (int line = 0; line < 20; line++) {
            due(line + 1, keeper.insert(0, line, Checks.type(keeper, lineOf(8 * line))));
        }
        due(20, keeper.join());
        // each line of the one draft begins a word later, so that no line stays, but all words but one
        for (int line = 0; line < 20; line++) {
            due(8, keeper.replace(0, line, Checks.type(keeper, lineOf(8 * line + 1))));
            due(8, keeper.replace(1, line, Checks.type(keeper, lineOf(500 + 8 * line))));
        }
        due(0, keeper.common(0, -1, 1, -1));
        due(7, keeper.common(0, 19, 1, 19));
        due("3 0 20 20 20 0 2", Checks.block(keeper, 0));
        due(64, keeper.line(1, 19, 1));
        due(8.0, keeper.meanWords(2));
        due(-1, keeper.decide(0, 3));
        due(0, keeper.decide(0, 2));
        due(1.0f, keeper.share(2));
        due(160 * 10, keeper.report(3));
        due(2, keeper.decide(0, 1));
        due(1.0f, keeper.share(1));
        due(160, keeper.mostWords());
        due(160, keeper.fewestWords());
        due(20, keeper.join());
        for (int line = 0; line < 20; line++) {
            due(8, keeper.replace(1, line, Checks.type(keeper, lineOf(8 * line))));
        }
        // the first word is new, and all the others are pairs, up to the last place of both rows
        due(159.0f / 160.0f, keeper.share(1));
        due(1.0f / 160.0f, keeper.share(2));
        due(2, keeper.author(true, 0, 0));
        due(1, keeper.author(true, 19, 7));
    }

    private static void openedAgain() {
        of("All decisions become open as soon as a draft or the BASE is changed (also if it becomes the same)");
        for (int call = 0; call < 5; call++) {
            SpeechKeeper keeper = Checks.of("base a/b/c/d;one a/x/c/d;two a/y/c/d;");
            due(0, keeper.decide(0, 2));
            long before = keeper.checksum();
            switch (call) {
                case 0 -> due(1, keeper.replace(0, 1, Checks.type(keeper, " x ")));
                case 1 -> due(1, keeper.replace(1, 3, Checks.type(keeper, "d")));
                case 2 -> due(1, keeper.move(0, 1, 1));
                case 3 -> due(1, keeper.move(1, 0, 0));
                default -> due(5, keeper.insert(1, 4, Checks.type(keeper, "e")));
            }
            due(0, keeper.block(0, 5));
            due(1, keeper.size(9));
            due(true, before != keeper.checksum());
            due(1, keeper.undo());
            due(before, keeper.checksum());
        }
        openedByEqualDrafts();
        openedByJoin();
    }

    /** discard() and adopt() leave no clash behind, but a block in its place. */
    private static void openedByEqualDrafts() {
        SpeechKeeper keeper = Checks.of("base a/b;one a/x;two a/y;");
        due(0, keeper.decide(0, 1));
        due(1, keeper.discard(0));
        due("1 0", keeper.block(0, 0) + " " + keeper.block(0, 5));
        due(1, keeper.undo());
        due("3 1", keeper.block(0, 0) + " " + keeper.block(0, 5));
        due(1, keeper.adopt(1));
        due("2 0", keeper.block(0, 0) + " " + keeper.block(0, 5));
        due(1, keeper.undo());
        due("3 1", keeper.block(0, 0) + " " + keeper.block(0, 5));
    }

    private static void openedByJoin() {
        SpeechKeeper keeper = Checks.of("base a/b;one a/x;two a/y;");
        due(0, keeper.decide(0, 1));
        due(2, keeper.join());
        due(1, keeper.replace(0, 1, Checks.type(keeper, "p")));
        due(1, keeper.replace(1, 1, Checks.type(keeper, "q")));
        due(0, keeper.block(0, 5));
        for (int left = 3; left >= 1; left--) {
            due(left, keeper.undo());
        }
        due(1, keeper.block(0, 5));
    }

    private static void keptDecisions() {
        of("undo() and restoreSnapshot() bring decisions back as they were");
        SpeechKeeper keeper = Checks.of("base a/b/c/d;one a/x/c/p;two a/y/c/q;");
        due(0, keeper.decide(0, 3));
        due(0, keeper.decide(1, 4));
        due(false, keeper.saveSnapshot(0));
        due(3, keeper.delete(0, 0));
        due("0 0", keeper.block(0, 5) + " " + keeper.block(1, 5));
        due(2, keeper.undo());
        due("3 4", keeper.block(0, 5) + " " + keeper.block(1, 5));
        due(1, keeper.undo());
        due("3 0", keeper.block(0, 5) + " " + keeper.block(1, 5));
        due(0, keeper.restoreSnapshot(0));
        due("3 4", keeper.block(0, 5) + " " + keeper.block(1, 5));
        // what throws or is refused, and what changes nothing, leaves them
        refuses(ABSENT, () -> keeper.delete(0, 4));
        due(true, keeper.saveSnapshot(0));
        due(false, keeper.wouldClash(0, 0));
        due("3 4", keeper.block(0, 5) + " " + keeper.block(1, 5));
        // to decide one clash leaves the other one as it is decided
        due(3, keeper.decide(0, 0));
        due("0 4", keeper.block(0, 5) + " " + keeper.block(1, 5));
        due(1, keeper.size(9));
        due(-1, keeper.join());
    }

    // ---- 4: authors

    private static void authorsOfBlocks() {
        of("a word of the side that is in a pair has the author of the word of the BASE");
        SpeechKeeper keeper = Checks.of("base a;one a b;two c a;");
        due(0, keeper.decide(0, 3));
        due("01/20", Checks.authors(keeper, true));
        due(2, keeper.join());
        due("01/20", Checks.authors(keeper, false));
        due(2, keeper.replace(1, 0, Checks.type(keeper, "b c")));
        due("12/20", Checks.authors(keeper, true));
        of("another one has the author 1 or 2, by the writer whose side it is; 3 if the block is agreed");
        due("1/0", Checks.authors(Checks.of("base a;one x/a;"), true));
        due("2/0", Checks.authors(Checks.of("base a;two x/a;"), true));
        due("3/0", Checks.authors(Checks.of("base a;one x/a;two x/a;"), true));
        due("303", Checks.authors(Checks.of("base a;one x a y;two x a y;"), true));
        of("If both sides stand there, each is laid beside the words of the BASE by itself");
        SpeechKeeper both = Checks.of("base a b;one a b c;two d a b;");
        due(0, both.decide(0, 3));
        due("001/200", Checks.authors(both, true));
        of("Lines of the BASE that stand in place of a clash keep theirs");
        SpeechKeeper later = Checks.of("base a;one a/b;");
        due(2, later.join());
        due(1, later.replace(0, 1, Checks.type(later, "x")));
        due(1, later.replace(1, 1, Checks.type(later, "y")));
        due("0/1", Checks.authors(later, true));
        due(0, later.decide(0, 4));
        due("0/1", Checks.authors(later, true));
        due(4, later.decide(0, 2));
        due("0/2", Checks.authors(later, true));
    }

    private static void authorsOfDrafts() {
        of("The words of a draft have no authors by themselves");
        SpeechKeeper keeper = Checks.of("base p;two y/p;");
        due(2, keeper.join());
        due("2/0", Checks.authors(keeper, false));
        // y of the writer 1 is gone, and y of the writer 0 is new
        due(2, keeper.move(0, 0, 1));
        due("0/1", Checks.authors(keeper, true));
        due("p\ny\n", Checks.report(keeper, 1));
        due(2, keeper.discard(0));
        due("2/0", Checks.authors(keeper, true));
        // what is taken back is a line of the BASE again
        due(1, keeper.delete(0, 0));
        due(0, keeper.takeBack(0, 0));
        due("2/0", Checks.authors(keeper, true));
        due("y\np\n", Checks.report(keeper, 1));
    }

    // ---- 5: texts

    private static void buffer() {
        of("The input buffer holds at most 700 bytes");
        SpeechKeeper keeper = new SpeechKeeper();
        StringBuilder setup = new StringBuilder("base a");
        while (setup.length() < 699) {
            setup.append('\n');
        }
        due(700, Checks.type(keeper, setup.append(';').toString()));
        due(700, keeper.size(12));
        due(-1, keeper.append(0, 0, 0, 0, 0));
        due(700, keeper.size(12));
        due(1, keeper.parse(700));
        due(0, keeper.size(12));
        Checks.type(keeper, setup.toString());
        due(-2 - (8 * 699 + 1), keeper.parse(699));
        due("a", Checks.text(keeper, 0));
        // an error at the last byte, and one behind it
        Checks.type(keeper, setup.substring(0, 699) + "/");
        due(-2 - (8 * 700 + 1), keeper.parse(700));
        Checks.type(keeper, setup.substring(0, 699) + "?");
        due(-2 - (8 * 699 + 1), keeper.parse(700));
    }

    private static void bytesOfSetup() {
        of("The bytes 32 and 10 separate tokens; a run of a to z is a word; 47 and 59; any other byte is invalid");
        for (int number = 0; number <= 255; number++) {
            String setup = "base a" + (char) number + "c;";
            if (number >= 'a' && number <= 'z') {
                due("a" + (char) number + "c", Checks.text(Checks.of(setup), 0));
            } else if (number == 32 || number == 10) {
                due("a c", Checks.text(Checks.of(setup), 0));
            } else if (number == 47) {
                due("a/c", Checks.text(Checks.of(setup), 0));
            } else {
                due(number == 59 ? "7 1" : "6 1", Checks.error(setup));
            }
        }
        of("otherwise ignored");
        due("a b/c", Checks.text(Checks.of("\n \nbase\n\na  b\n/ \n c ; \n"), 0));
        due("a/b", Checks.text(Checks.of("base a/b;one c;two d;"), 0));
    }

    private static void bytesOfLine() {
        of("words and blanks (byte 32) alone");
        for (int number = 0; number <= 255; number++) {
            boolean isAllowed = number >= 'a' && number <= 'z' || number == 32;
            due(isAllowed ? (Object) 2 : ILLEGAL, typed("a" + (char) number + "c"));
            due(isAllowed ? (Object) 2 : ILLEGAL, typed((char) number + "ac"));
            due(isAllowed ? (Object) 2 : ILLEGAL, typed("ac" + (char) number));
        }
    }

    private static void grammar() {
        of("setup = \"base\" lines \";\" [ \"one\" lines \";\" ] [ \"two\" lines \";\" ]");
        due("no error", Checks.error("base;"));
        due("no error", Checks.error("base;one;"));
        due("no error", Checks.error("base;two;"));
        due("no error", Checks.error("base;one;two;"));
        due("0 1", Checks.error("one;"));
        due("0 1", Checks.error("two;"));
        due("0 1", Checks.error(";"));
        due("0 1", Checks.error("/"));
        due("5 1", Checks.error("base;base;"));
        due("5 1", Checks.error("base;three;"));
        due("9 1", Checks.error("base;one;one;"));
        due("9 1", Checks.error("base;two;one;"));
        due("9 1", Checks.error("base;two;two;"));
        due("13 1", Checks.error("base;one;two;one;"));
        due("5 1", Checks.error("base;;"));
        keywords();
        of("lines = [ line { \"/\" line } ], line = WORD { WORD }");
        due("5 1", Checks.error("base /;"));
        due("6 1", Checks.error("base a"));
        due("7 1", Checks.error("base a/"));
        due("7 1", Checks.error("base a//a;"));
        due("7 1", Checks.error("base a/;"));
        of("A WORD is any word, also one that is quoted above");
        SpeechKeeper quoted = Checks.of("base base one/two;one one/base;two two;");
        due("base one/two", Checks.text(quoted, 0));
        due("one/base", Checks.text(quoted, 1));
        due("two", Checks.text(quoted, 2));
        of("without it the draft is equal to the BASE");
        due("q", Checks.text(Checks.of("base q;two r;"), 1));
        due("q", Checks.text(Checks.of("base q;one r;"), 2));
        due("", Checks.text(Checks.of("base q;one;"), 1));
    }

    /** Each letter of the three counts, and their number. */
    private static void keywords() {
        String[] before = {"", "base;", "base;one;"};
        String[] words = {"base", "one", "two"};
        for (int word = 0; word < 3; word++) {
            String error = before[word].length() + " 1";
            due("no error", Checks.error(before[word] + words[word] + ";"));
            for (int place = 0; place < words[word].length(); place++) {
                StringBuilder wrong = new StringBuilder(before[word] + words[word] + ";");
                wrong.setCharAt(before[word].length() + place, 'x');
                due(error, Checks.error(wrong.toString()));
                wrong.deleteCharAt(before[word].length() + place);
                due(error, Checks.error(wrong.toString()));
            }
            due(error, Checks.error(before[word] + words[word] + "s;"));
            due(error, Checks.error(before[word] + "s" + words[word] + ";"));
        }
    }

    private static void earlyEnds() {
        of("if the setup ends too early, it is the number of bytes");
        String setup = "base ab/c;one d;";
        for (int bytes = 0; bytes < setup.length(); bytes++) {
            SpeechKeeper keeper = new SpeechKeeper();
            Checks.type(keeper, setup);
            // 1 to 3 bytes are another word than base
            int offset = bytes >= 1 && bytes <= 3 ? 0 : bytes >= 11 && bytes <= 12 ? 10 : bytes;
            due(bytes == 10 ? 2 : -2 - (8 * offset + 1), keeper.parse(bytes));
        }
        due("9 1", Checks.error("base a \n "));
    }

    private static void codes() {
        of("2 a WORD of more than 8 letters in a line");
        due("no error", Checks.error("base abcdefgh;"));
        due("5 2", Checks.error("base abcdefghi;"));
        due("5 2", Checks.error("base abcdefghijklmnopqrstuvwxyzabcdefghijklmnopqrstuvwxyz;"));
        due("21 2", Checks.error("base a;one b;two c d abcdefghi;"));
        // where no WORD may stand, a long word is a token that is not allowed
        due("0 1", Checks.error("basebasebase;"));
        due("7 1", Checks.error("base a;oneoneone b;"));
        of("3 the 9th WORD of a line");
        due("no error", Checks.error("base " + EIGHT_WORDS + "/" + EIGHT_WORDS + ";"));
        due("37 3", Checks.error("base " + EIGHT_WORDS + "/" + EIGHT_WORDS + " i;"));
        due("27 3", Checks.error("base a;two " + EIGHT_WORDS + " i j k;"));
        of("4 the first WORD of the 21st line of a text");
        due("no error", Checks.error("base " + Checks.lines(20) + ";two " + Checks.lines(20) + ";"));
        due("46 4", Checks.error("base " + Checks.lines(20) + "/ " + EIGHT_WORDS + " i/;"));
        due("45 1", Checks.error("base " + Checks.lines(20) + "//a;"));
        due("45 1", Checks.error("base " + Checks.lines(20) + "/?;"));
    }

    private static void smallestOffset() {
        of("The error with the smallest offset is reported");
        due("5 2", Checks.error("base abcdefghi?;;"));
        due("6 1", Checks.error("base a?abcdefghi;"));
        due("21 3", Checks.error("base " + EIGHT_WORDS + " i abcdefghi;"));
        due("21 3", Checks.error("base " + EIGHT_WORDS + " i?"));
        due("45 4", Checks.error("base " + Checks.lines(20) + "/a abcdefghi;"));
        of("with the smallest code of several at one offset");
        due("21 2", Checks.error("base " + EIGHT_WORDS + " abcdefghi;"));
        due("45 2", Checks.error("base " + Checks.lines(20) + "/abcdefghi;"));
    }

    private static void toldLines() {
        of("A line that is told to a method is the first bytes of the input buffer");
        SpeechKeeper keeper = Checks.of("base z;");
        Checks.type(keeper, "abcdefghi j");
        due(2, keeper.insert(0, 1, 8));
        Checks.type(keeper, EIGHT_WORDS + " i;");
        due(3, keeper.insert(0, 2, 15));
        Checks.type(keeper, EIGHT_WORDS + " i;");
        due(1, keeper.replace(0, 0, 16));
        due(EIGHT_WORDS + "/abcdefgh/" + EIGHT_WORDS, Checks.text(keeper, 1));
        Checks.type(keeper, EIGHT_WORDS + " i;");
        refuses(ILLEGAL, () -> keeper.insert(0, 3, 17));
        refuses(ILLEGAL, () -> keeper.replace(0, 0, 17));
        due(8, keeper.replace(0, 0, 1));
        due("a", Checks.word(keeper, 1, 0, 0));
        Checks.type(keeper, "   ");
        refuses(ILLEGAL, () -> keeper.insert(0, 0, 3));
        refuses(ILLEGAL, () -> keeper.insert(0, 0, 20));
    }

    private static void emptiedBuffer() {
        of("the buffer is empty afterwards (also if the call is refused; not behind an exception)");
        SpeechKeeper keeper = Checks.of("base " + Checks.lines(20) + ";");
        Checks.type(keeper, "x y and what is behind it");
        due(1, keeper.replace(0, 0, 1));
        due(0, keeper.size(12));
        Checks.type(keeper, "x y and what is behind it");
        due(-1, keeper.insert(0, 0, 1));
        due(0, keeper.size(12));
        Checks.type(keeper, "x ?");
        refuses(ILLEGAL, () -> keeper.insert(0, 0, 3));
        refuses(ILLEGAL, () -> keeper.replace(0, 0, 3));
        refuses(ABSENT, () -> keeper.insert(0, 21, 1));
        refuses(ABSENT, () -> keeper.replace(0, 20, 1));
        due(20, keeper.size(12));
        due(19, keeper.delete(0, 0));
        due(20, keeper.size(12));
        due(20, keeper.insert(0, 0, 1));
        due("x", Checks.word(keeper, 1, 0, 0));
        due(0, keeper.size(12));
    }

    // ---- 6: changes of all this

    private static void recordedCalls() {
        of("is recorded, also if it alters nothing");
        SpeechKeeper keeper = Checks.of("base a/b;one a/x;two a/y;");
        due(1, keeper.replace(0, 1, Checks.type(keeper, "x")));
        due(1, keeper.size(11));
        due(1, keeper.move(0, 0, 0));
        due(2, keeper.size(11));
        due(0, keeper.decide(0, 0));
        due(3, keeper.size(11));
        due(1, keeper.discard(1));
        due(0, keeper.discard(1));
        due(5, keeper.size(11));
        due(2, keeper.join());
        due(2, keeper.join());
        due(7, keeper.size(11));
        due(0, keeper.adopt(0));
        due(8, keeper.size(11));
        due(7, keeper.undo());
        due(6, keeper.undo());
        due(1, keeper.size(4));
    }

    /** All that can be told of a keeper but what is in the buffer, in few calls. */
    private static String seen(SpeechKeeper keeper) {
        return keeper.checksum() + " " + keeper.size(11) + " " + keeper.reportByte(0) + " " + keeper.reportByte(3) + " "
            + keeper.reportByte(4);
    }

    /** A keeper with 20 lines in a draft, a decision, calls to undo, a snapshot, a report and bytes in the buffer. */
    private static SpeechKeeper rich() {
        SpeechKeeper keeper = Checks.of("base a/b/c;one a/" + Checks.lines(18, 'd') + "/c;two a/y/c/e;");
        keeper.decide(0, 2);
        keeper.saveSnapshot(0);
        keeper.decide(0, 4);
        keeper.report(3);
        Checks.type(keeper, "x ?");
        return keeper;
    }

    private static void refusedCalls() {
        of("A refused one alters nothing but the buffer");
        SpeechKeeper keeper = rich();
        String before = seen(keeper);
        due(-1, keeper.decide(1, 1));
        due(-1, keeper.decide(0, 3));
        due(20, keeper.size(12));
        due(before, seen(keeper));
        due(-1, keeper.insert(0, 20, 1));
        due(0, keeper.size(12));
        due(before, seen(keeper));
        Checks.type(keeper, "x ?");
        due(4, keeper.decide(0, 0));
        String opened = seen(keeper);
        due(-1, keeper.join());
        due(20, keeper.size(12));
        due(opened, seen(keeper));
        due(2, keeper.undo());
        due(before, seen(keeper));
        due(0, keeper.restoreSnapshot(0));
        due(2, keeper.block(0, 5));
        // takeBack() beyond 20 lines leaves a decision and the buffer too
        SpeechKeeper full = Checks.of("base x/b/y/z;one b/p/" + Checks.lines(18, 'd') + ";two x/b/q/z;");
        due(0, full.decide(1, 2));
        Checks.type(full, "x");
        before = seen(full);
        due(-1, full.takeBack(0, 0));
        due(before, seen(full));
        due(2, full.block(1, 5));
        due(20, full.size(12));
    }

    private static void latestEight() {
        of("The latest 8 recorded calls can be undone, the latest first");
        SpeechKeeper keeper = Checks.of("base " + Checks.lines(12) + ";");
        for (int call = 1; call <= 8; call++) {
            due(12 - call, keeper.delete(0, 0));
            due(call, keeper.size(11));
        }
        // the 9th and the 10th push the first two out
        due(3, keeper.delete(0, 0));
        due(8, keeper.size(11));
        due(2, keeper.delete(0, 0));
        due(8, keeper.size(11));
        for (int left = 7; left >= 0; left--) {
            due(left, keeper.undo());
            due(10 - left, keeper.size(1));
        }
        due(-1, keeper.undo());
        due("c", Checks.word(keeper, 1, 0, 0));
        due(9, keeper.delete(0, 9));
        due(1, keeper.size(11));
        due(0, keeper.undo());
        due(10, keeper.size(1));
        due(-1, keeper.undo());
    }

    private static void thrownCalls() {
        of("A method that throws an exception changes nothing");
        SpeechKeeper keeper = rich();
        String before = seen(keeper);
        List<Checks.Call> calls = List.of(() -> keeper.parse(21), () -> keeper.parse(-1), () -> keeper.size(13),
            () -> keeper.line(4, 0, 0), () -> keeper.letter(0, 3, 0, 0), () -> keeper.author(false, 0, 1),
            () -> keeper.change(0, 9, 0), () -> keeper.meet(9, 0), () -> keeper.block(9, 0),
            () -> keeper.common(0, -1, 0, 0), () -> keeper.occurrences(4, 1), () -> keeper.occurrences(0, 9),
            () -> keeper.occurrences(0, 0), () -> keeper.share(4), () -> keeper.meanWords(4), () -> keeper.safeLines(2),
            () -> keeper.wouldClash(0, 20), () -> keeper.insert(0, 21, 1), () -> keeper.insert(1, 0, 3),
            () -> keeper.insert(0, 0, 3), () -> keeper.replace(1, 4, 1), () -> keeper.replace(1, 0, 3),
            () -> keeper.delete(0, 20), () -> keeper.deleteWord(0, 0, 1), () -> keeper.move(0, 0, 20),
            () -> keeper.takeBack(0, 1), () -> keeper.decide(2, 1), () -> keeper.decide(0, 5),
            () -> keeper.discard(2), () -> keeper.adopt(-1), () -> keeper.report(4), () -> keeper.saveSnapshot(2),
            () -> keeper.restoreSnapshot(1), () -> keeper.restoreSnapshot(2));
        for (int call = 0; call < calls.size(); call++) {
            due(call + " throws", call + (isThrowing(calls.get(call)) ? " throws" : " answers"));
            due(call + " " + before, call + " " + seen(keeper));
            due(20, keeper.size(12));
        }
        due(1, keeper.undo());
        due(2, keeper.block(0, 5));
        due(0, keeper.restoreSnapshot(0));
    }

    private static boolean isThrowing(Checks.Call call) {
        try {
            call.answer();
            return false;
        } catch (IllegalArgumentException | IndexOutOfBoundsException | NoSuchElementException e) {
            return true;
        }
    }

    private static void firstOfSeveral() {
        of("if several exceptions apply, the one listed first is thrown");
        SpeechKeeper keeper = Checks.of("base a/b;one a/x;two a/y;");
        refuses(ILLEGAL, () -> keeper.line(4, 2, 0));
        refuses(ILLEGAL, () -> keeper.line(0, 2, 2));
        refuses(ILLEGAL, () -> keeper.letter(4, 2, 1, 0));
        refuses(ABSENT, () -> keeper.change(2, 0, 5));
        refuses(ABSENT, () -> keeper.change(0, 1, 5));
        refuses(ABSENT, () -> keeper.block(1, 7));
        refuses(ILLEGAL, () -> keeper.common(4, 2, 0, 0));
        refuses(ILLEGAL, () -> keeper.common(0, 2, 4, 0));
        refuses(ILLEGAL, () -> keeper.common(0, 2, 0, -1));
        refuses(ILLEGAL, () -> keeper.common(0, -1, 0, 2));
        refuses(ABSENT, () -> keeper.insert(2, 0, 0));
        refuses(ABSENT, () -> keeper.insert(0, 3, 0));
        refuses(ABSENT, () -> keeper.replace(2, 0, 0));
        refuses(ABSENT, () -> keeper.replace(0, 2, 0));
        refuses(ABSENT, () -> keeper.decide(1, 5));
        refuses(ILLEGAL, () -> keeper.restoreSnapshot(2));
        Checks.type(keeper, "?");
        refuses(ABSENT, () -> keeper.insert(0, -1, 1));
        refuses(ABSENT, () -> keeper.replace(0, -1, 1));
        // an exception goes before a refusal
        refuses(ILLEGAL, () -> Checks.of("base a/b;").insert(0, 2, 1));
        SpeechKeeper full = Checks.of("base " + Checks.lines(20) + ";one z/" + Checks.lines(19, 'b') + ";");
        refuses(ILLEGAL, () -> full.insert(0, 20, 1));
        refuses(ILLEGAL, () -> full.decide(0, 5));
    }

    private static void textNumbers() {
        of("0 the BASE, 1 the draft of the writer 0, 2 that of the writer 1, 3 the JOINT text");
        SpeechKeeper keeper = Checks.of("base a;one a/b/b;two c c c/c/c/a;");
        due("1 3 4 6", keeper.size(0) + " " + keeper.size(1) + " " + keeper.size(2) + " " + keeper.size(3));
        due("a", Checks.text(keeper, 0));
        due("a/b/b", Checks.text(keeper, 1));
        due("c c c/c/c/a", Checks.text(keeper, 2));
        due("c c c/c/c/a/b/b", Checks.text(keeper, 3));
    }

    /** A new keeper with the same three texts tells the same changes, blocks and JOINT text. */
    private static void toldAnew() {
        of("Each change is seen in all that follows from the texts");
        for (int call = 0; call < 12; call++) {
            SpeechKeeper keeper = Checks.of("base a/b/c/d;one a/x/c/d;two a/y/c/d/e;");
            for (int before = 0; before <= call; before++) {
                due(true, keeper.size(3) >= 4);
                changeBy(keeper, before);
            }
            SpeechKeeper fresh = Checks.of("base " + Checks.text(keeper, 0) + ";one " + Checks.text(keeper, 1) + ";two "
                + Checks.text(keeper, 2) + ";");
            due(call + " " + followed(fresh), call + " " + followed(keeper));
        }
    }

    private static void changeBy(SpeechKeeper keeper, int call) {
        switch (call) {
            case 0 -> due(5, keeper.insert(0, 2, Checks.type(keeper, "n")));
            case 1 -> due(1, keeper.replace(1, 3, Checks.type(keeper, "m k")));
            case 2 -> due(4, keeper.delete(1, 2));
            case 3 -> due(4, keeper.deleteWord(1, 2, 0));
            case 4 -> due(2, keeper.move(1, 0, 2));
            case 5 -> due(false, keeper.saveSnapshot(0));
            case 6 -> due(0, keeper.takeBack(0, 0));
            case 7 -> due(5, keeper.undo());
            case 8 -> due(2, keeper.discard(1));
            case 9 -> due(0, keeper.restoreSnapshot(0));
            case 10 -> due(1, keeper.adopt(1));
            default -> due(5, keeper.join());
        }
    }

    private static String followed(SpeechKeeper keeper) {
        StringBuilder all = new StringBuilder(Checks.text(keeper, 3));
        for (int writer = 0; writer < 2; writer++) {
            for (int change = 0; change < keeper.size(5 + writer); change++) {
                all.append(", ").append(Checks.change(keeper, writer, change));
            }
        }
        for (int block = 0; block < keeper.size(7); block++) {
            all.append("; ").append(Checks.block(keeper, block));
        }
        return all.append(' ').append(keeper.mostWords()).toString();
    }

    private static void manyCalls() {
        of("An object is used for at most 512 calls");
        SpeechKeeper keeper = new SpeechKeeper();
        for (int call = 1; call < 511; call++) {
            due(0, keeper.join());
        }
        due(510, keeper.size(4));
        due(8, keeper.size(11));
    }
}
