import java.math.BigInteger;
import java.util.ArrayList;
import java.util.List;
import java.util.NoSuchElementException;

/** Each sentence of the promises that names a boundary, by a test of its own, on both sides of the boundary. */
public final class EdgesTest {
    private static final Class<IllegalArgumentException> ILLEGAL = IllegalArgumentException.class;
    private static final Class<IndexOutOfBoundsException> ABSENT = IndexOutOfBoundsException.class;
    private static final Class<NoSuchElementException> EMPTY = NoSuchElementException.class;

    private static final int[] FAR = {Integer.MIN_VALUE, Integer.MIN_VALUE + 1, -65536, 1 << 30, Integer.MAX_VALUE};
    private static final String EIGHT_WORDS = "a b c d e f g h";

    private static final Checks CHECKS = new Checks();

    /** A call with one number of its own. */
    private interface ByNumber {
        Object answer(int number);
    }

    private static void of(int promise, String sentence) {
        CHECKS.begin("promise " + promise + ": " + sentence);
    }

    private static void due(Object want, Object got) {
        CHECKS.due(want, got);
    }

    private static void refuses(Class<? extends RuntimeException> want, Checks.Call call) {
        CHECKS.refuses(want, call);
    }

    /** The numbers just below and just above a range and those far from it are refused; its ends are not. */
    private static void range(int least, int most, Class<? extends RuntimeException> want, ByNumber call) {
        outOfRange(least, most, want, call);
        due(true, isAnswered(call, least));
        due(true, isAnswered(call, most));
    }

    private static void outOfRange(int least, int most, Class<? extends RuntimeException> want, ByNumber call) {
        refuses(want, () -> call.answer(least - 1));
        refuses(want, () -> call.answer(most + 1));
        for (int far : FAR) {
            refuses(want, () -> call.answer(far));
        }
    }

    private static boolean isAnswered(ByNumber call, int number) {
        try {
            call.answer(number);
            return true;
        } catch (RuntimeException e) {
            return false;
        }
    }

    /** The BASE has 3 lines, the draft of the writer 0 has 2, that of the writer 1 has 4, the JOINT text has 3. */
    private static SpeechKeeper small() {
        return Checks.of("base a b/c/d;one a b/x y;two a b/p/q/d;");
    }

    private static SpeechKeeper full() {
        return Checks.of("base " + Checks.lines(20) + ";one z/" + Checks.lines(19, 'b') + ";two y/"
            + Checks.lines(19, 'b') + ";");
    }

    public static void main(String[] args) {
        newObject();
        newObjectRefuses();
        appendOrder();
        appendUpToFull();
        parseRange();
        parseReplaces();
        parseEmpties();
        parseErrorLeaves();
        parseAnswers();
        size();
        sizeAtEnds();
        line();
        letter();
        author();
        change();
        meet();
        block();
        blockDecision();
        commonRanges();
        commonOfLines();
        occurrencesRange();
        occurrencesOfLetters();
        occurrencesCount();
        share();
        meanWords();
        safeLines();
        wouldClashRange();
        wouldClashMore();
        fewestBack();
        fewestWords();
        mostWords();
        mostWordsOfMany();
        insertRange();
        insertIntoFull();
        replace();
        delete();
        deleteWord();
        deleteWordOfFullText();
        deleteLastWord();
        move();
        takeBackRange();
        takeBackUpToFull();
        decideRange();
        decideNoClash();
        decideUpToTwenty();
        decideAlsoOpen();
        joinOpen();
        joinUpToTwenty();
        discard();
        adopt();
        report();
        reportDigits();
        reportByte();
        undo();
        undoneForGood();
        saveSnapshot();
        restoreSnapshot();
        snapshotsStay();
        checksum();
        checksumWraps();
        CHECKS.end("EdgesTest");
    }

    // ---- texts

    private static void newObject() {
        of(1, "an empty BASE and empty drafts, ROUND 0, an empty buffer and no snapshots");
        SpeechKeeper keeper = new SpeechKeeper();
        for (int what = 0; what <= 12; what++) {
            due(0, keeper.size(what));
        }
        due(-1, SpeechKeeper.NONE);
        due(0L, keeper.checksum());
        due(0, keeper.fewestBack());
        due(0, keeper.fewestWords());
        due(0, keeper.mostWords());
        due(0, keeper.safeLines(0));
        due(0, keeper.safeLines(1));
        due(0.0f, keeper.share(0));
        due(0.0, keeper.meanWords(3));
        due(-1, keeper.undo());
        due(-1, keeper.reportByte(0));
        due(0, keeper.report(3));
        due(-1, keeper.reportByte(0));
        due(0, keeper.discard(0));
        due(0, keeper.adopt(1));
        due(0, keeper.join());
        due(1, keeper.size(4));
        due(3, keeper.size(11));
        due(false, keeper.saveSnapshot(0));
        due(false, keeper.saveSnapshot(1));
        due(-3, keeper.parse(0));
    }

    private static void newObjectRefuses() {
        SpeechKeeper keeper = new SpeechKeeper();
        refuses(EMPTY, () -> keeper.restoreSnapshot(0));
        refuses(EMPTY, () -> keeper.restoreSnapshot(1));
        refuses(ILLEGAL, () -> keeper.parse(1));
        refuses(ILLEGAL, () -> keeper.occurrences(0, 1));
        refuses(ILLEGAL, () -> keeper.insert(0, 0, 1));
        refuses(ILLEGAL, () -> keeper.insert(0, 0, 0));
        refuses(ABSENT, () -> keeper.insert(0, 1, 1));
        refuses(ABSENT, () -> keeper.replace(0, 0, 1));
        refuses(ABSENT, () -> keeper.delete(0, 0));
        refuses(ABSENT, () -> keeper.deleteWord(0, 0, 0));
        refuses(ABSENT, () -> keeper.move(0, 0, 0));
        refuses(ABSENT, () -> keeper.takeBack(0, 0));
        refuses(ABSENT, () -> keeper.decide(0, 0));
        refuses(ABSENT, () -> keeper.wouldClash(0, 0));
        refuses(ABSENT, () -> keeper.meet(0, 0));
        refuses(ABSENT, () -> keeper.author(false, 0, 0));
        refuses(ABSENT, () -> keeper.author(true, 0, 0));
        refuses(ABSENT, () -> keeper.letter(3, 0, 0, 0));
        refuses(ABSENT, () -> keeper.common(0, 0, 1, 0));
        due(0, keeper.common(0, -1, 1, -1));
        due(0, keeper.size(11));
    }

    private static void appendOrder() {
        of(2, "the four bytes of each argument, the most significant byte first");
        SpeechKeeper keeper = new SpeechKeeper();
        due(20, keeper.append(0x62617365, 0x20616263, 0x64206566, 0x67682f69, 0x6a6b6c3b));
        due(2, keeper.parse(20));
        due("abcd efgh/ijkl", Checks.text(keeper, 0));
        // bytes over 127 do not touch those before them
        due(20, keeper.append(0x62617365, 0x3bff80fe, -1, -1, -1));
        due(40, keeper.append(-1, -1, -1, -1, 0x808080ff));
        due(0, keeper.parse(5));
        due(20, keeper.append(0x62617365, 0x3bff80fe, 0, 0, 0));
        due(-2 - (8 * 5 + 1), keeper.parse(6));
    }

    private static void appendUpToFull() {
        of(2, "Returns the new length of the buffer; NONE, with nothing appended, if it would exceed 700");
        SpeechKeeper keeper = new SpeechKeeper();
        Checks.type(keeper, "base q;");
        for (int length = 40; length <= 680; length += 20) {
            due(length, keeper.append(0x20202020, 0x20202020, 0x20202020, 0x20202020, 0x20202020));
        }
        due(680, keeper.size(12));
        due(700, keeper.append(0x20202020, 0x20202020, 0x20202020, 0x20202020, 0x20202020));
        for (int times = 0; times < 3; times++) {
            due(-1, keeper.append(-1, -1, -1, -1, -1));
            due(700, keeper.size(12));
        }
        due(1, keeper.parse(700));
        due("q", Checks.text(keeper, 0));
        due(20, keeper.append(0, 0, 0, 0, 0));
    }

    private static void parseRange() {
        of(3, "bytes: 0 to the length of the buffer");
        SpeechKeeper keeper = new SpeechKeeper();
        outOfRange(0, 0, ILLEGAL, keeper::parse);
        due(-3, keeper.parse(0));
        Checks.type(keeper, "base q;");
        outOfRange(0, 20, ILLEGAL, keeper::parse);
        due(20, keeper.size(12));
        due(1, keeper.parse(20));
        while (keeper.size(12) < 700) {
            Checks.type(keeper, ";");
        }
        outOfRange(0, 700, ILLEGAL, keeper::parse);
        due(700, keeper.size(12));
        due(-3, keeper.parse(700));
    }

    /** A keeper in which all that parse() replaces is there. */
    private static SpeechKeeper used() {
        SpeechKeeper keeper = Checks.of("base a/b;one a/x;two a/y;");
        keeper.decide(0, 3);
        keeper.join();
        keeper.replace(0, 1, Checks.type(keeper, "p"));
        keeper.replace(1, 1, Checks.type(keeper, "q"));
        keeper.decide(0, 1);
        keeper.saveSnapshot(0);
        keeper.saveSnapshot(1);
        keeper.report(3);
        return keeper;
    }

    private static void parseReplaces() {
        of(3, "a setup, which replaces everything (ROUND is 0); nothing can be undone then, both snapshots are gone");
        SpeechKeeper keeper = used();
        due(1, keeper.size(4));
        due(5, keeper.size(11));
        due("0/1/2", Checks.authors(keeper, false));
        due(2, keeper.parse(Checks.type(keeper, "base a/b;one a/x;two a/y;")));
        due(0, keeper.size(4));
        due(0, keeper.size(11));
        due(-1, keeper.undo());
        due("0/0", Checks.authors(keeper, false));
        due(0, keeper.block(0, 5));
        due(1, keeper.size(9));
        due("a/x", Checks.text(keeper, 1));
        due("a/y", Checks.text(keeper, 2));
        refuses(EMPTY, () -> keeper.restoreSnapshot(0));
        refuses(EMPTY, () -> keeper.restoreSnapshot(1));
        due(false, keeper.saveSnapshot(0));
        due(false, keeper.saveSnapshot(1));
        due("a/b", Checks.text(keeper, 3));
        due(3, keeper.parse(Checks.type(keeper, "base c/d/e;one c/e;two c/d/e/f;")));
        due("c/e/f", Checks.text(keeper, 3));
        due("0 1 2 0 1 0 1", Checks.block(keeper, 0));
        due("1 3 3 0 1 0 1", Checks.block(keeper, 1));
        due(0, keeper.parse(Checks.type(keeper, "base;")));
        due("0 0 0 0 0", keeper.size(0) + " " + keeper.size(1) + " " + keeper.size(2) + " " + keeper.size(3) + " "
            + keeper.size(7));
    }

    private static void parseEmpties() {
        of(3, "The buffer is empty afterwards, also after an error");
        SpeechKeeper keeper = new SpeechKeeper();
        Checks.type(keeper, "base a; and much that is behind it");
        due(40, keeper.size(12));
        due(1, keeper.parse(7));
        due(0, keeper.size(12));
        Checks.type(keeper, "base ? and much that is behind it");
        due(-43, keeper.parse(7));
        due(0, keeper.size(12));
        Checks.type(keeper, "base b;");
        due(-3, keeper.parse(0));
        due(0, keeper.size(12));
        due("a", Checks.text(keeper, 0));
    }

    private static void parseErrorLeaves() {
        of(3, "an error, by which nothing else changes");
        String[] wrong = {"", "base", "base x", "base x;one y", "base x;one y;two z", "base x;two y;one z;",
            "base x;one y;two z;x", "base abcdefghi;", "base " + EIGHT_WORDS + " i;", "base " + Checks.lines(21) + ";"};
        for (String setup : wrong) {
            SpeechKeeper keeper = used();
            long before = keeper.checksum();
            due(true, keeper.parse(Checks.type(keeper, setup)) < -2);
            due(before, keeper.checksum());
            due(5, keeper.size(11));
            due((int) 'a', keeper.reportByte(0));
            due(true, keeper.saveSnapshot(0));
            due(4, keeper.undo());
            due(0, keeper.block(0, 5));
            due(1, keeper.restoreSnapshot(1));
            due(before, keeper.checksum());
        }
    }

    private static void parseAnswers() {
        of(3, "Returns the number of lines of the BASE; -2 - (8 * offset + code) of the error");
        due(0, parsed("base;"));
        due(0, parsed("base;one a;two b/c;"));
        due(1, parsed("base a;one;two;"));
        due(20, parsed("base " + Checks.lines(20) + ";one;"));
        due(-2 - (8 * 0 + 1), parsed("a"));
        due(-2 - (8 * 5 + 2), parsed("base abcdefghi"));
        due(-2 - (8 * 21 + 3), parsed("base " + EIGHT_WORDS + " i"));
        due(-2 - (8 * 45 + 4), parsed("base " + Checks.lines(21)));
    }

    private static int parsed(String setup) {
        SpeechKeeper keeper = new SpeechKeeper();
        return keeper.parse(Checks.type(keeper, setup));
    }

    private static void size() {
        of(4, "IllegalArgumentException if what is out of range");
        range(0, 12, ILLEGAL, small()::size);
        of(4, "0 to 3 the lines of a text, 4 ROUND, 5 and 6 changes, 7 blocks, 8 clashes, 9 open clashes, 10 agreed");
        SpeechKeeper keeper = Checks.of("base a/b/c/d/e/f/g;one w/b/x/d/e/z;two v/b/y/d/k/f/z/r/s;");
        // clashes of a and c, e of the writer 1 alone, a clash of f and g
        int[] want = {7, 6, 9, 7, 0, 3, 4, 4, 3, 3, 0, 0, 0};
        for (int what = 0; what < want.length; what++) {
            due(want[what], keeper.size(what));
        }
        due(0, keeper.decide(0, 1));
        due("3 2", keeper.size(8) + " " + keeper.size(9));
        due(0, keeper.decide(1, 4));
        due("3 1", keeper.size(8) + " " + keeper.size(9));
        due(0, keeper.decide(3, 2));
        due("3 0", keeper.size(8) + " " + keeper.size(9));
        due(9, keeper.size(3));
        due(2, keeper.decide(3, 0));
        due("3 1", keeper.size(8) + " " + keeper.size(9));
        due(1, Checks.of("base a/b;one a;two a;").size(10));
        due(0, Checks.of("base a/b;one a;two a;").size(8));
        due(0, Checks.of("base a/b;one a;two b;").size(10));
    }

    private static void sizeAtEnds() {
        of(4, "11 calls that can be undone, 12 the length of the buffer");
        SpeechKeeper keeper = new SpeechKeeper();
        for (int call = 1; call <= 10; call++) {
            keeper.join();
            due(Math.min(call, 8), keeper.size(11));
        }
        for (int left = 7; left >= 0; left--) {
            keeper.undo();
            due(left, keeper.size(11));
        }
        keeper.undo();
        due(0, keeper.size(11));
        for (int call = 1; call <= 36; call++) {
            keeper.append(0, 0, 0, 0, 0);
            due(Math.min(20 * call, 700), keeper.size(12));
        }
    }

    private static void line() {
        of(5, "IllegalArgumentException if text or what is out of range");
        SpeechKeeper keeper = small();
        range(0, 3, ILLEGAL, text -> keeper.line(text, 0, 0));
        range(0, 1, ILLEGAL, what -> keeper.line(0, 0, what));
        range(0, 1, ILLEGAL, what -> keeper.line(3, 2, what));
        of(5, "IndexOutOfBoundsException if there is no such line");
        int[] lines = {3, 2, 4, 3};
        for (int text = 0; text <= 3; text++) {
            int told = text;
            due(lines[text], keeper.size(text));
            range(0, lines[text] - 1, ABSENT, line -> keeper.line(told, line, 1));
        }
        of(5, "what: 0 its words, 1 its letters without blanks");
        SpeechKeeper ends = Checks.of("base a/" + "abcdefgh ".repeat(8) + ";");
        due("1 1", ends.line(0, 0, 0) + " " + ends.line(0, 0, 1));
        due("8 64", ends.line(0, 1, 0) + " " + ends.line(0, 1, 1));
        due("8 64", ends.line(3, 1, 0) + " " + ends.line(3, 1, 1));
    }

    private static void letter() {
        SpeechKeeper keeper = Checks.of("base a/abcdefgh z;one;");
        of(6, "IllegalArgumentException if text is out of range");
        range(0, 3, ILLEGAL, text -> Checks.of("base a;").letter(text, 0, 0, 0));
        of(6, "IndexOutOfBoundsException if there is no such line or word");
        range(0, 1, ABSENT, line -> keeper.letter(0, line, 0, 0));
        range(0, 0, ABSENT, word -> keeper.letter(0, 0, word, 0));
        range(0, 1, ABSENT, word -> keeper.letter(2, 1, word, 0));
        refuses(ABSENT, () -> keeper.letter(1, 0, 0, 0));
        refuses(ABSENT, () -> keeper.letter(0, 2, 0, 99));
        of(6, "Returns 1 to 26 for a to z; 0 if there is no such letter (index: any number)");
        for (int index = -70; index <= 70; index++) {
            due(index >= 0 && index < 8 ? index + 1 : 0, keeper.letter(0, 1, 0, index));
            due(index == 0 ? 26 : 0, keeper.letter(0, 1, 1, index));
        }
        for (int far : FAR) {
            due(0, keeper.letter(0, 1, 0, far));
        }
        SpeechKeeper all = Checks.of("base abcdefgh ijklmnop qrstuvwx yz;");
        for (int letter = 1; letter <= 26; letter++) {
            due(letter, all.letter(0, 0, (letter - 1) / 8, (letter - 1) % 8));
        }
    }

    private static void author() {
        of(7, "IndexOutOfBoundsException if there is no such line or word");
        SpeechKeeper keeper = Checks.of("base a b/c;one a b/c/d e f;");
        range(0, 1, ABSENT, line -> keeper.author(false, line, 0));
        range(0, 2, ABSENT, line -> keeper.author(true, line, 0));
        range(0, 1, ABSENT, word -> keeper.author(false, 0, word));
        range(0, 0, ABSENT, word -> keeper.author(false, 1, word));
        range(0, 2, ABSENT, word -> keeper.author(true, 2, word));
        of(7, "the author of a word of the BASE, or of the JOINT text");
        due("00/0/111", Checks.authors(keeper, true));
        due("00/0", Checks.authors(keeper, false));
        due(3, keeper.join());
        due("00/0/111", Checks.authors(keeper, false));
        range(0, 2, ABSENT, word -> keeper.author(false, 2, word));
    }

    // ---- changes and blocks

    private static void change() {
        of(8, "IndexOutOfBoundsException if there is no such writer or change");
        SpeechKeeper keeper = Checks.of("base a/b/c;one x/b/y;two a/z/c;");
        range(0, 1, ABSENT, writer -> keeper.change(writer, 0, 0));
        range(0, 1, ABSENT, change -> keeper.change(0, change, 4));
        range(0, 0, ABSENT, change -> keeper.change(1, change, 4));
        refuses(ABSENT, () -> Checks.of("base a;one b;").change(1, 0, 0));
        of(8, "IllegalArgumentException if what is out of range");
        range(0, 4, ILLEGAL, what -> keeper.change(0, 1, what));
        refuses(ABSENT, () -> keeper.change(2, 2, 5));
        refuses(ABSENT, () -> keeper.change(0, 2, 5));
        due("2 3 2 3 2", Checks.change(keeper, 0, 1));
        due("1 2 1 2 1", Checks.change(keeper, 1, 0));
    }

    private static void meet() {
        of(9, "A change that does not exist causes an IndexOutOfBoundsException");
        SpeechKeeper keeper = Checks.of("base a/b/c;one x/b/y;two a/b/z;");
        range(0, 1, ABSENT, zero -> keeper.meet(zero, 0));
        range(0, 0, ABSENT, one -> keeper.meet(0, one));
        due(false, keeper.meet(0, 0));
        due(true, keeper.meet(1, 0));
        refuses(ABSENT, () -> Checks.of("base a;one b;").meet(0, 0));
        refuses(ABSENT, () -> Checks.of("base a;two b;").meet(0, 0));
    }

    private static void block() {
        of(10, "A block that does not exist causes an IndexOutOfBoundsException");
        SpeechKeeper keeper = small();
        range(0, 0, ABSENT, block -> keeper.block(block, 0));
        range(0, 2, ABSENT, block -> Checks.of("base a/b/c/d;one x/b/c;two a/y/c;").block(block, 6));
        refuses(ABSENT, () -> Checks.of("base a;").block(0, 0));
        of(10, "IllegalArgumentException if what is out of range");
        range(0, 6, ILLEGAL, what -> keeper.block(0, what));
        refuses(ABSENT, () -> keeper.block(1, 7));
        due("3 1 3 1 3 0 2", Checks.block(keeper, 0));
    }

    private static void blockDecision() {
        of(10, "5 its decision (0 if it is no clash)");
        SpeechKeeper keeper = Checks.of("base a/b/c/d;one x/b/c/z/e;two a/y/c/z/e;");
        for (int block = 0; block <= 2; block++) {
            due(block, keeper.block(block, 0));
            due(0, keeper.block(block, 5));
            due(-1, keeper.decide(block, 1));
            due(0, keeper.block(block, 5));
        }
        SpeechKeeper clash = Checks.of("base a;one b;two c;");
        for (int decision = 1; decision <= 5; decision++) {
            due((decision - 1) % 5, clash.decide(0, decision % 5));
            due(decision % 5, clash.block(0, 5));
        }
    }

    private static void commonRanges() {
        of(11, "text or other is out of range, or one of the lines is NONE and the other one is not");
        SpeechKeeper keeper = small();
        range(0, 3, ILLEGAL, text -> keeper.common(text, 0, 0, 0));
        range(0, 3, ILLEGAL, other -> keeper.common(0, 0, other, 0));
        range(0, 3, ILLEGAL, text -> keeper.common(text, -1, 0, -1));
        range(0, 3, ILLEGAL, other -> keeper.common(0, -1, other, -1));
        for (int line : new int[] {Integer.MIN_VALUE, -3, -2, 0, 2, 3, Integer.MAX_VALUE}) {
            refuses(ILLEGAL, () -> keeper.common(0, line, 0, -1));
            refuses(ILLEGAL, () -> keeper.common(0, -1, 0, line));
        }
        of(11, "IndexOutOfBoundsException if there is no such line");
        for (int line : new int[] {Integer.MIN_VALUE, -3, -2, 4, 5, Integer.MAX_VALUE}) {
            refuses(ABSENT, () -> keeper.common(2, line, 0, 0));
            refuses(ABSENT, () -> keeper.common(0, 0, 2, line));
            refuses(ABSENT, () -> keeper.common(0, line, 2, line));
        }
        due(1, keeper.common(0, 2, 2, 3));
        due(1, keeper.common(2, 3, 3, 2));
        refuses(ABSENT, () -> keeper.common(0, 3, 2, 3));
        refuses(ABSENT, () -> keeper.common(2, 3, 3, 3));
    }

    private static void commonOfLines() {
        of(11, "the number of pairs if the words of the line of the text and of the other line are laid side by side");
        SpeechKeeper keeper = Checks.of("base a b c d e f g h/a/h g f e d c b a;one b a b;two x;");
        due(8, keeper.common(0, 0, 0, 0));
        due(1, keeper.common(0, 0, 0, 1));
        due(1, keeper.common(0, 0, 0, 2));
        due(2, keeper.common(0, 0, 1, 0));
        due(2, keeper.common(0, 2, 1, 0));
        due(0, keeper.common(0, 0, 2, 0));
        of(11, "with NONE for both: the number of pairs if both texts are laid side by side, line by line");
        due(0, keeper.common(0, -1, 2, -1));
        due(3, keeper.common(0, -1, 0, -1));
        SpeechKeeper full = Checks.of("base " + Checks.lines(20) + ";two;");
        due(20, full.common(0, -1, 1, -1));
        due(0, full.common(1, -1, 2, -1));
        due(0, full.common(2, -1, 1, -1));
        due(0, full.common(2, -1, 2, -1));
    }

    // ---- words

    private static void occurrencesRange() {
        of(12, "IllegalArgumentException if text or bytes is out of range");
        range(0, 3, ILLEGAL, text -> {
            SpeechKeeper keeper = small();
            Checks.type(keeper, "a");
            return keeper.occurrences(text, 1);
        });
        range(1, 8, ILLEGAL, bytes -> {
            SpeechKeeper keeper = small();
            Checks.type(keeper, "abcdefghi");
            return keeper.occurrences(0, bytes);
        });
        of(12, "not more than the length of the buffer");
        SpeechKeeper keeper = small();
        for (int bytes = -1; bytes <= 9; bytes++) {
            int told = bytes;
            refuses(ILLEGAL, () -> keeper.occurrences(0, told));
        }
        of(12, "the word that is the first bytes of the buffer, which is empty afterwards");
        Checks.type(keeper, "abc");
        refuses(ILLEGAL, () -> keeper.occurrences(0, 9));
        refuses(ILLEGAL, () -> keeper.occurrences(4, 1));
        due(20, keeper.size(12));
        due(1, keeper.occurrences(0, 1));
        due(0, keeper.size(12));
    }

    private static void occurrencesOfLetters() {
        of(12, "NONE if these bytes are not all letters");
        for (int number = 0; number <= 255; number++) {
            for (int place = 0; place < 8; place += 7) {
                StringBuilder bytes = new StringBuilder("bbbbbbbb");
                bytes.setCharAt(place, (char) number);
                SpeechKeeper keeper = small();
                Checks.type(keeper, bytes.toString());
                due(number >= 'a' && number <= 'z' ? 0 : -1, keeper.occurrences(0, 8));
                due(0, keeper.size(12));
            }
        }
        SpeechKeeper keeper = small();
        // only the first bytes count
        Checks.type(keeper, "a?");
        due(1, keeper.occurrences(0, 1));
        Checks.type(keeper, "a?");
        due(-1, keeper.occurrences(0, 2));
    }

    private static void occurrencesCount() {
        of(12, "Returns how often it occurs");
        SpeechKeeper keeper = Checks.of("base a a aa/a b a/abcdefgh;one;");
        due(4, keeper.occurrences(0, Checks.type(keeper, "a")));
        due(1, keeper.occurrences(0, Checks.type(keeper, "aa")));
        due(0, keeper.occurrences(0, Checks.type(keeper, "aaa")));
        due(1, keeper.occurrences(0, Checks.type(keeper, "abcdefgh")));
        due(0, keeper.occurrences(0, Checks.type(keeper, "abcdefg")));
        due(0, keeper.occurrences(1, Checks.type(keeper, "a")));
        due(4, keeper.occurrences(2, Checks.type(keeper, "a")));
        due(0, keeper.occurrences(3, Checks.type(keeper, "a")));
        SpeechKeeper most = new SpeechKeeper();
        most.parse(Checks.type(most, "base " + "z z z z z z z z/".repeat(19) + "z z z z z z z z;"));
        due(160, most.occurrences(0, Checks.type(most, "z")));
        due(160, most.occurrences(3, Checks.type(most, "z")));
    }

    private static void share() {
        of(13, "IllegalArgumentException if author is out of range");
        SpeechKeeper keeper = Checks.of("base a/b/c;one a/b/x/c;two a/b/c y y;");
        range(0, 3, ILLEGAL, keeper::share);
        of(13, "the words of the JOINT text with an author, divided by all of its words, as float");
        due(3.0f / 6.0f, keeper.share(0));
        due(1.0f / 6.0f, keeper.share(1));
        due(2.0f / 6.0f, keeper.share(2));
        due(0.0f, keeper.share(3));
        due(1.0f, Checks.of("base;one a;two a;").share(3));
        due(1.0f, Checks.of("base a;").share(0));
        due(1.0f / 3.0f, Checks.of("base a a;two a a a;").share(2));
        of(13, "0.0f without words");
        for (int author = 0; author <= 3; author++) {
            due(0.0f, Checks.of("base a;one;two;").share(author));
        }
    }

    private static void meanWords() {
        of(14, "IllegalArgumentException if text is out of range");
        range(0, 3, ILLEGAL, small()::meanWords);
        of(14, "the words of a text divided by its lines, as double; 0.0 without lines");
        due(4.0 / 3.0, small().meanWords(0));
        due(2.0, small().meanWords(1));
        due(5.0 / 4.0, small().meanWords(2));
        due(4.0 / 3.0, small().meanWords(3));
        due(8.0, Checks.of("base " + EIGHT_WORDS + ";").meanWords(0));
        SpeechKeeper empty = Checks.of("base a;one;two;");
        due("1.0 0.0 0.0 0.0", empty.meanWords(0) + " " + empty.meanWords(1) + " " + empty.meanWords(2) + " "
            + empty.meanWords(3));
    }

    // ---- what would be

    private static void safeLines() {
        of(15, "A writer that does not exist causes an IndexOutOfBoundsException");
        range(0, 1, ABSENT, small()::safeLines);
        of(15, "the lines of the BASE, as a sum of 2 to the power of their numbers");
        due(0, Checks.of("base;one a;two b;").safeLines(0));
        due(1, Checks.of("base a;one;").safeLines(0));
        due((1 << 20) - 2, full().safeLines(0));
        due((1 << 20) - 1, Checks.of("base " + Checks.lines(20) + ";one;").safeLines(0));
        due((1 << 19) - 1, Checks.of("base " + Checks.lines(20) + ";two " + Checks.lines(19) + ";").safeLines(0));
        of(15, "that are in no change of the other writer");
        SpeechKeeper keeper = Checks.of("base a/b/c/d/e;one a/d/e;two x/a/b/y/c/z/e;");
        due(1 + 2 + 4 + 16, keeper.safeLines(0));
        due(1 + 8 + 16, keeper.safeLines(1));
        due(0, Checks.of("base a/b;one;").safeLines(1));
    }

    private static void wouldClashRange() {
        of(16, "A writer or line that does not exist causes an IndexOutOfBoundsException");
        SpeechKeeper keeper = small();
        range(0, 1, ABSENT, writer -> keeper.wouldClash(writer, 0));
        range(0, 1, ABSENT, line -> keeper.wouldClash(0, line));
        range(0, 3, ABSENT, line -> keeper.wouldClash(1, line));
        refuses(ABSENT, () -> Checks.of("base a;one;").wouldClash(0, 0));
        due(false, Checks.of("base a;").wouldClash(0, 0));
        due(true, Checks.of("base a;two b;").wouldClash(0, 0));
        due(false, full().wouldClash(0, 19));
        due(true, Checks.of("base " + Checks.lines(20) + ";two " + Checks.lines(19) + "/z;").wouldClash(0, 19));
    }

    private static void wouldClashMore() {
        of(16, "would make more clashes than there are now");
        // one clash, decided, and another one; two that become one; one that is no clash any more
        SpeechKeeper keeper = Checks.of("base a/b/c/d/e;one a/x/c/d/e;two a/y/c/z/e;");
        due(0, keeper.decide(0, 1));
        Checks.type(keeper, "q");
        long before = keeper.checksum();
        due(true, keeper.wouldClash(0, 3));
        due(false, keeper.wouldClash(0, 2));
        due(false, keeper.wouldClash(0, 1));
        due(false, keeper.wouldClash(1, 1));
        of(16, "nothing changes");
        due(before, keeper.checksum());
        due(1, keeper.block(0, 5));
        due(1, keeper.size(11));
        due(20, keeper.size(12));
        due(false, Checks.of("base a/b/c;one x/b/y;two p/b/q;").wouldClash(0, 1));
        due(false, Checks.of("base a/b;one a/b;two a;").wouldClash(0, 1));
        due(true, Checks.of("base a/b/c;two a/x/c;").wouldClash(0, 1));
        due(false, Checks.of("base a/b/c;two a/x/c;").wouldClash(0, 2));
        due(true, Checks.of("base a/b/c;one a/x/c;").wouldClash(1, 1));
        due(false, Checks.of("base a/b/c;one a/x/c;").wouldClash(1, 2));
        // the draft as it is now, not as it was told or as it was asked before
        SpeechKeeper changed = Checks.of("base a/b/c;two a/x/c;");
        due(4, changed.insert(0, 0, Checks.type(changed, "n")));
        due("false false true false", changed.wouldClash(0, 0) + " " + changed.wouldClash(0, 1) + " "
            + changed.wouldClash(0, 2) + " " + changed.wouldClash(0, 3));
        due(-3, changed.parse(0));
        due(true, changed.wouldClash(0, 2));
    }

    private static void fewestBack() {
        of(17, "the fewest changes of both writers without which no two of the changes that are left would meet");
        due(0, Checks.of("base a/b;one a/x;").fewestBack());
        due(0, Checks.of("base a;one x/a;").fewestBack());
        due(0, Checks.of("base a;two x/a;").fewestBack());
        due(1, Checks.of("base a/b;one a/x;two a/y;").fewestBack());
        due(0, Checks.of("base a/b;one a/x;two y/b;").fewestBack());
        // a chain of 2, 3, 4 and 5 changes that meet one after the other
        due(1, Checks.of("base a/b/c/d;one x/d;two a/b/y;").fewestBack());
        due(1, Checks.of("base a/b/c/d/e/f/g/h;one x/d/x/h;two a/b/y/f/g/h;").fewestBack());
        due(2, Checks.of("base a/b/c/d/e/f/g/h/i;one x/d/x/h/i;two a/b/y/f/y;").fewestBack());
        due(2, Checks.of("base a/b/c/d/e/f/g/h/i/j;one x/d/x/h/x;two a/b/y/f/y/j;").fewestBack());
        // one around many
        due(1, Checks.of("base a/b/c/d/e/f;one x;two a/p/c/q/e/r;").fewestBack());
        due(10, Checks.of("base " + Checks.lines(20) + ";one z/b/z/d/z/f/z/h/z/j/z/l/z/n/z/p/z/r/z/t;"
            + "two y/b/y/d/y/f/y/h/y/j/y/l/y/n/y/p/y/r/y/t;").fewestBack());
        of(17, "but for those of agreed blocks");
        due(0, Checks.of("base a/b/c;one a/x/c;two a/x/c;").fewestBack());
        due(1, Checks.of("base a/b/c/d/e;one a/x/c/p/e;two a/x/c/q/e;").fewestBack());
        due(0, Checks.of("base;one a;two a;").fewestBack());
        // a decision does not count
        SpeechKeeper decided = Checks.of("base a;one b;two c;");
        due(0, decided.decide(0, 1));
        due(1, decided.fewestBack());
    }

    private static void fewestWords() {
        of(18, "the fewest words that the JOINT text can have by decisions (1 to 4) of all clashes");
        due(3, Checks.of("base a a a/k;one b b/k;two c c c c/k;").fewestWords());
        due(3, Checks.of("base a a a/k;one b b b/k;two c c/k;").fewestWords());
        due(3, Checks.of("base a a/k;one b b b/k;two c c c c/k;").fewestWords());
        due(0, Checks.of("base a a;one;two c;").fewestWords());
        due(0, Checks.of("base;one b;two c;").fewestWords());
        due(2 + 1, Checks.of("base a/k k/b b;one x x/k k/y y y;two p p/k k;").fewestWords());
        due(4, Checks.of("base a/b;one a/b x;two a x/b;").fewestWords());
        of(18, "however many lines it has then");
        due(38, Checks.of("base z;one " + Checks.lines(18) + "/z;two z/" + Checks.lines(19) + ";").fewestWords());
        due(21, Checks.of("base z/y/w;one z/x/w/" + Checks.lines(17) + ";two v/z/u/w;").fewestWords());
    }

    private static void mostWords() {
        of(19, "the most words by decisions (1 to 4) of all clashes, if it has not more than 20 lines then");
        due(3, Checks.of("base a a a;one b;two c;").mostWords());
        due(4, Checks.of("base a a a;one b b;two c c;").mostWords());
        due(2, Checks.of("base k;one k b;two k;").mostWords());
        due(0, Checks.of("base;").mostWords());
        due(160, Checks.of("base " + (EIGHT_WORDS + "/").repeat(19) + EIGHT_WORDS + ";").mostWords());
        // both sides make 20 lines, or 21
        String rest = Checks.lines(18, 'b');
        due(18 + 2 + 3, Checks.of("base a/" + rest + ";one x x/" + rest + ";two y y y/" + rest + ";").mostWords());
        rest = Checks.lines(19, 'b');
        due(19 + 3, Checks.of("base a/" + rest + ";one x x/" + rest + ";two y y y/" + rest + ";").mostWords());
        due(19 + 3, Checks.of("base a/" + rest + ";one x x x/" + rest + ";two y y/" + rest + ";").mostWords());
        due(19 + 3, Checks.of("base a a a/" + rest + ";one x x/" + rest + ";two y y/" + rest + ";").mostWords());
        // how it is decided now does not count
        SpeechKeeper keeper = Checks.of("base a;one x x;two y y y;");
        due(0, keeper.decide(0, 4));
        due(5, keeper.mostWords());
        due(4, keeper.block(0, 5));
    }

    private static void mostWordsOfMany() {
        of(19, "NONE if it has more by all decisions");
        due(-1, Checks.of("base z;one " + Checks.lines(18) + "/z;two z/" + Checks.lines(18) + ";").mostWords());
        // 20 lines, and 21, without a clash
        due(20, Checks.of("base z;one " + Checks.lines(9) + "/z;two z/" + Checks.lines(10) + ";").mostWords());
        due(-1, Checks.of("base z;one " + Checks.lines(10) + "/z;two z/" + Checks.lines(10) + ";").mostWords());
        // the side of nine lines makes 20 lines, that of ten lines 21
        String before = ";one " + Checks.lines(10);
        due(20, Checks.of("base z/m m" + before + "/z/x x;two z/" + Checks.lines(9) + ";").mostWords());
        due(13, Checks.of("base z/m m" + before + "/z/x x;two z/" + Checks.lines(10) + ";").mostWords());
        // only a side without lines leaves 20 lines, and then not even that
        due(20, Checks.of("base z/m m;one " + Checks.lines(19) + "/z;two z/x;").mostWords());
        due(-1, Checks.of("base z/y/m;one " + Checks.lines(18) + "/z/y;two z/q/y/x;").mostWords());
        of(19, "the most words of several clashes that share the lines");
        // 17 lines and two clashes: one of them can have both sides, best the one with 3 and 4 words
        String rest = Checks.lines(17, 'b');
        due(17 + 3 + 7, Checks.of("base a/" + rest + "/z;one x x/" + rest + "/y y y;two p p p/" + rest + "/q q q q;")
            .mostWords());
        // two clashes side by side, with no line beside them: both sides of the latter leave no line for the former
        SpeechKeeper beside = Checks.of("base a/b/c/d/e/f;one x/d/" + Checks.lines(9, 'g') + ";two y/c/"
            + Checks.lines(10, 'p') + ";");
        due("3 0 3 1 2 0 2", Checks.block(beside, 0));
        due("3 3 6 10 10 0 2", Checks.block(beside, 1));
        due(3 + 10, beside.mostWords());
        due(1 + 3, beside.fewestWords());
    }

    // ---- changes

    private static SpeechKeeper typed(SpeechKeeper keeper, String line) {
        Checks.type(keeper, line);
        return keeper;
    }

    private static void insertRange() {
        of(20, "IndexOutOfBoundsException if there is no such writer, or line is out of range");
        range(0, 1, ABSENT, writer -> typed(small(), "x").insert(writer, 0, 1));
        range(0, 2, ABSENT, line -> typed(small(), "x").insert(0, line, 1));
        range(0, 4, ABSENT, line -> typed(small(), "x").insert(1, line, 1));
        range(0, 0, ABSENT, line -> typed(new SpeechKeeper(), "x").insert(0, line, 1));
        of(20, "IllegalArgumentException if bytes is out of range, or these bytes are not a line");
        range(1, 20, ILLEGAL, bytes -> typed(small(), "x").insert(0, 0, bytes));
        refuses(ILLEGAL, () -> small().insert(0, 0, 1));
        refuses(ILLEGAL, () -> small().insert(0, 0, 0));
        refuses(ILLEGAL, () -> typed(small(), " ").insert(0, 0, 1));
        refuses(ILLEGAL, () -> typed(small(), "/").insert(0, 0, 1));
        of(20, "line: the number that it has then, 0 to the lines of the draft");
        for (int line = 0; line <= 4; line++) {
            SpeechKeeper keeper = small();
            due(5, keeper.insert(1, line, Checks.type(keeper, "z")));
            List<String> lines = new ArrayList<>(List.of("a b", "p", "q", "d"));
            lines.add(line, "z");
            due(String.join("/", lines), Checks.text(keeper, 2));
        }
    }

    private static void insertIntoFull() {
        of(20, "Returns how many lines the draft has then; NONE if it is refused: there are 20 lines");
        SpeechKeeper keeper = new SpeechKeeper();
        for (int lines = 1; lines <= 20; lines++) {
            due(lines, keeper.insert(1, lines - 1, Checks.type(keeper, "x")));
        }
        for (int line = 0; line <= 20; line++) {
            due(-1, keeper.insert(1, line, Checks.type(keeper, "y")));
            due(0, keeper.size(12));
        }
        due(8, keeper.size(11));
        due(0, keeper.occurrences(2, Checks.type(keeper, "y")));
        due(20, keeper.size(2));
        refuses(ABSENT, () -> keeper.insert(1, 21, 1));
        due(19, keeper.delete(1, 19));
        due(20, keeper.insert(1, 19, Checks.type(keeper, "y")));
        due(1, keeper.insert(0, 0, Checks.type(keeper, "z")));
    }

    private static void replace() {
        of(21, "IndexOutOfBoundsException if there is no such writer or line");
        range(0, 1, ABSENT, writer -> typed(small(), "x").replace(writer, 0, 1));
        range(0, 1, ABSENT, line -> typed(small(), "x").replace(0, line, 1));
        range(0, 3, ABSENT, line -> typed(small(), "x").replace(1, line, 1));
        refuses(ABSENT, () -> typed(new SpeechKeeper(), "x").replace(0, 0, 1));
        of(21, "IllegalArgumentException if bytes is out of range, or these bytes are not a line");
        range(1, 20, ILLEGAL, bytes -> typed(small(), "x").replace(0, 0, bytes));
        refuses(ILLEGAL, () -> small().replace(0, 0, 1));
        refuses(ILLEGAL, () -> typed(small(), "?").replace(0, 0, 1));
        of(21, "Returns how many words the line had");
        SpeechKeeper keeper = full();
        due(1, keeper.replace(0, 19, Checks.type(keeper, EIGHT_WORDS)));
        due(8, keeper.replace(0, 19, Checks.type(keeper, "x y")));
        due(2, keeper.replace(0, 19, Checks.type(keeper, "x")));
        due(20, keeper.size(1));
        due("x", Checks.word(keeper, 1, 19, 0));
        due(1, keeper.line(1, 19, 0));
    }

    private static void delete() {
        of(22, "A writer or line that does not exist causes an IndexOutOfBoundsException");
        range(0, 1, ABSENT, writer -> small().delete(writer, 0));
        range(0, 1, ABSENT, line -> small().delete(0, line));
        range(0, 3, ABSENT, line -> small().delete(1, line));
        of(22, "Returns how many lines the draft has then");
        SpeechKeeper keeper = full();
        due(19, keeper.delete(1, 19));
        due(18, keeper.delete(1, 0));
        due("b", Checks.word(keeper, 2, 0, 0));
        due("s", Checks.word(keeper, 2, 17, 0));
        for (int left = 17; left >= 0; left--) {
            due(left, keeper.delete(1, 0));
        }
        refuses(ABSENT, () -> keeper.delete(1, 0));
        due(0, keeper.size(2));
        due(20, keeper.size(1));
    }

    private static void deleteWord() {
        of(23, "A writer, line or word that does not exist causes an IndexOutOfBoundsException");
        range(0, 1, ABSENT, writer -> small().deleteWord(writer, 0, 0));
        range(0, 1, ABSENT, line -> small().deleteWord(0, line, 0));
        range(0, 3, ABSENT, line -> small().deleteWord(1, line, 0));
        range(0, 1, ABSENT, word -> small().deleteWord(0, 1, word));
        range(0, 0, ABSENT, word -> small().deleteWord(1, 1, word));
        range(0, 7, ABSENT, word -> Checks.of("base " + EIGHT_WORDS + ";").deleteWord(0, 0, word));
        of(23, "Deletes a word of a line of a draft");
        for (int word = 0; word < 8; word++) {
            SpeechKeeper keeper = Checks.of("base k/" + EIGHT_WORDS + "/m;");
            due(3, keeper.deleteWord(1, 1, word));
            List<String> words = new ArrayList<>(List.of(EIGHT_WORDS.split(" ")));
            words.remove(word);
            due("k/" + String.join(" ", words) + "/m", Checks.text(keeper, 2));
        }
    }

    private static void deleteWordOfFullText() {
        of(23, "Deletes a word of a line of a draft, also of the 20th line with 8 words");
        String others = "a/".repeat(19);
        for (int word = 0; word < 8; word++) {
            SpeechKeeper keeper = Checks.of("base " + others + EIGHT_WORDS + ";");
            due(20, keeper.deleteWord(0, 19, word));
            List<String> words = new ArrayList<>(List.of(EIGHT_WORDS.split(" ")));
            words.remove(word);
            due(others + String.join(" ", words), Checks.text(keeper, 1));
            due(others + EIGHT_WORDS, Checks.text(keeper, 2));
        }
    }

    private static void deleteLastWord() {
        of(23, "a line without words is deleted");
        SpeechKeeper keeper = Checks.of("base a/b c/d;");
        due(3, keeper.deleteWord(0, 1, 1));
        due(2, keeper.deleteWord(0, 1, 0));
        due("a/d", Checks.text(keeper, 1));
        due(1, keeper.deleteWord(0, 1, 0));
        due(0, keeper.deleteWord(0, 0, 0));
        due(0, keeper.size(1));
        refuses(ABSENT, () -> keeper.deleteWord(0, 0, 0));
        due(4, keeper.size(11));
        due(3, keeper.undo());
        due("a", Checks.text(keeper, 1));
    }

    private static void move() {
        of(24, "no such writer or line, or no line with the number to");
        range(0, 1, ABSENT, writer -> small().move(writer, 0, 1));
        range(0, 1, ABSENT, line -> small().move(0, line, 0));
        range(0, 3, ABSENT, line -> small().move(1, line, 0));
        range(0, 1, ABSENT, to -> small().move(0, 0, to));
        range(0, 3, ABSENT, to -> small().move(1, 3, to));
        refuses(ABSENT, () -> new SpeechKeeper().move(0, 0, 0));
        of(24, "it is taken out and put in again; to: the number that it has then");
        for (int line = 0; line < 4; line++) {
            for (int to = 0; to < 4; to++) {
                SpeechKeeper keeper = Checks.of("base a/b/c/d;");
                due(line == to ? 0 : 2, keeper.move(1, line, to));
                List<String> lines = new ArrayList<>(List.of("a", "b", "c", "d"));
                lines.add(to, lines.remove(line));
                due(String.join("/", lines), Checks.text(keeper, 2));
                due("a/b/c/d", Checks.text(keeper, 1));
                due(1, keeper.size(11));
            }
        }
        // a full draft has room for its own lines
        SpeechKeeper full = Checks.of("base " + Checks.lines(20) + ";");
        due(2, full.move(0, 0, 19));
        due("a", Checks.word(full, 1, 19, 0));
        due(0, full.move(0, 19, 0));
        due(20, full.size(1));
        // a line that was told before is not the line that is moved
        SpeechKeeper told = Checks.of("base a/b/c;");
        due(1, told.replace(0, 0, Checks.type(told, "n n")));
        due(2, told.move(0, 1, 2));
        due("n n/c/b", Checks.text(told, 1));
        due(0, Checks.of("base a;").move(0, 0, 0));
    }

    private static void takeBackRange() {
        of(25, "A writer or change that does not exist causes an IndexOutOfBoundsException");
        range(0, 1, ABSENT, writer -> small().takeBack(writer, 0));
        range(0, 0, ABSENT, change -> small().takeBack(0, change));
        range(0, 1, ABSENT, change -> Checks.of("base a/b;one x/a/y;").takeBack(0, change));
        refuses(ABSENT, () -> Checks.of("base a/b;one x/a/y;").takeBack(1, 0));
        of(25, "its lines of the draft are replaced by its lines of the BASE");
        SpeechKeeper keeper = Checks.of("base a/b/c/d/e;one a/x/y/z/d/e/n;two b/c/d;");
        due(1, keeper.takeBack(0, 0));
        due("a/b/c/d/e/n", Checks.text(keeper, 1));
        due(0, keeper.takeBack(0, 0));
        due("a/b/c/d/e", Checks.text(keeper, 1));
        due(1, keeper.takeBack(1, 1));
        due("b/c/d/e", Checks.text(keeper, 2));
        due(0, keeper.takeBack(1, 0));
        due("a/b/c/d/e", Checks.text(keeper, 2));
        due(4, keeper.size(11));
        SpeechKeeper whole = Checks.of("base " + Checks.lines(20) + ";one;");
        due(0, whole.takeBack(0, 0));
        due(20, whole.size(1));
    }

    private static void takeBackUpToFull() {
        of(25, "NONE if it is refused: the draft would have more than 20 lines");
        // 19 lines and one taken back, 20 lines and one taken back
        SpeechKeeper room = Checks.of("base a/b;one b/" + Checks.lines(18, 'c') + ";");
        due(19, room.size(1));
        due(1, room.takeBack(0, 0));
        due(20, room.size(1));
        SpeechKeeper full = Checks.of("base a/b;one b/" + Checks.lines(19, 'c') + ";");
        due(-1, full.takeBack(0, 0));
        due(20, full.size(1));
        due(0, full.size(11));
        due("b", Checks.word(full, 1, 0, 0));
        due(1, full.takeBack(0, 1));
        due("b", Checks.text(full, 1));
        // behind lines that stay
        due(-1, Checks.of("base a/b/c;one a/c/" + Checks.lines(18, 'd') + ";").takeBack(0, 0));
        due(1, Checks.of("base a/b/c;one a/c/" + Checks.lines(17, 'd') + ";").takeBack(0, 0));
        // as many lines go as come
        SpeechKeeper same = Checks.of("base a/b;one x/b/" + Checks.lines(18, 'c') + ";");
        due(1, same.takeBack(0, 0));
        due(20, same.size(1));
    }

    private static void decideRange() {
        of(26, "A block that does not exist causes an IndexOutOfBoundsException");
        range(0, 0, ABSENT, block -> small().decide(block, 1));
        range(0, 2, ABSENT, block -> Checks.of("base a/b/c/d;one x/b/c;two a/y/c;").decide(block, 1));
        refuses(ABSENT, () -> Checks.of("base a;").decide(0, 0));
        of(26, "IllegalArgumentException if decision is out of range");
        range(0, 4, ILLEGAL, decision -> small().decide(0, decision));
        refuses(ILLEGAL, () -> Checks.of("base a;one b;").decide(0, 5));
        refuses(ILLEGAL, () -> Checks.of("base a;one b;").decide(0, -1));
        of(26, "Returns the previous decision");
        SpeechKeeper keeper = small();
        int previous = 0;
        for (int decision : new int[] {0, 1, 1, 2, 4, 3, 3, 0, 4, 0}) {
            due(previous, keeper.decide(0, decision));
            previous = decision;
        }
        due(8, keeper.size(11));
    }

    private static void decideNoClash() {
        of(26, "NONE if it is refused: the block is no clash");
        SpeechKeeper keeper = Checks.of("base a/b/c/d;one x/b/c/z/e;two a/y/c/z/e;");
        for (int block = 0; block <= 2; block++) {
            for (int decision = 0; decision <= 4; decision++) {
                due(-1, keeper.decide(block, decision));
            }
        }
        due(0, keeper.size(11));
        due("x/y/c/z/e", Checks.text(keeper, 3));
    }

    private static void decideUpToTwenty() {
        of(26, "the JOINT text has more than 20 lines with this decision");
        String rest = Checks.lines(18, 'b');
        SpeechKeeper twenty = Checks.of("base a/" + rest + ";one x/" + rest + ";two y/" + rest + ";");
        due(0, twenty.decide(0, 3));
        due(20, twenty.size(3));
        rest = Checks.lines(19, 'b');
        SpeechKeeper more = Checks.of("base a/" + rest + ";one x/" + rest + ";two y/" + rest + ";");
        due(-1, more.decide(0, 3));
        due(0, more.size(11));
        due(1, more.size(9));
        due(0, more.decide(0, 2));
        due(-1, more.decide(0, 3));
        due(2, more.block(0, 5));
        due(1, more.size(11));
        // how other clashes are decided counts
        rest = Checks.lines(17, 'b');
        SpeechKeeper two = Checks.of("base a/" + rest + "/z;one x/" + rest + "/w;two y/" + rest + "/v;");
        due(0, two.decide(0, 3));
        due(-1, two.decide(1, 3));
        due(3, two.decide(0, 1));
        due(0, two.decide(1, 3));
        due(-1, two.decide(0, 3));
        due(20, two.size(3));
    }

    private static void decideAlsoOpen() {
        of(26, "more than 20 lines with this decision (also 0)");
        // the JOINT text has 21 lines, 10 of which are the lines of the BASE of the clash
        String behind = "/z/" + Checks.lines(10, 'k');
        SpeechKeeper keeper = Checks.of("base " + Checks.lines(10) + "/z;one x" + behind + ";two y/z;");
        due(21, keeper.size(3));
        due(-1, keeper.decide(0, 0));
        due(-1, keeper.decide(0, 4));
        due(0, keeper.size(11));
        due(0, keeper.decide(0, 1));
        due(12, keeper.size(3));
        due(-1, keeper.decide(0, 0));
        due(1, keeper.block(0, 5));
        due(1, keeper.decide(0, 3));
        due(2, keeper.size(11));
        // one line less: 20 lines
        SpeechKeeper twenty = Checks.of("base " + Checks.lines(9) + "/z;one x" + behind + ";two y/z;");
        due(20, twenty.size(3));
        due(0, twenty.decide(0, 0));
        due(0, twenty.decide(0, 4));
        due(4, twenty.decide(0, 0));
    }

    private static void joinOpen() {
        of(27, "NONE if it is refused: a clash is open");
        SpeechKeeper keeper = Checks.of("base a/b/c;one x/b/y;two p/b/q;");
        due(-1, keeper.join());
        due(0, keeper.decide(0, 1));
        due(-1, keeper.join());
        due(1, keeper.size(11));
        due(0, keeper.size(4));
        due("x/b/y", Checks.text(keeper, 1));
        due(0, keeper.decide(1, 4));
        due(3, keeper.join());
        due("x/b/c", Checks.text(keeper, 0));
        due("x/b/c", Checks.text(keeper, 1));
        due("x/b/c", Checks.text(keeper, 2));
        due("1/0/0", Checks.authors(keeper, false));
        of(27, "ROUND grows by 1");
        due(1, keeper.size(4));
        due(3, keeper.join());
        due(2, keeper.size(4));
        due("1/0/0", Checks.authors(keeper, false));
        due(3, keeper.undo());
        due(1, keeper.size(4));
        due(2, keeper.undo());
        due(0, keeper.size(4));
        due("0/0/0", Checks.authors(keeper, false));
        due(4, keeper.block(1, 5));
        due(0, Checks.of("base a;one;").join());
    }

    private static void joinUpToTwenty() {
        of(27, "or it would have more than 20 lines");
        SpeechKeeper twenty = Checks.of("base k;one " + Checks.lines(9) + "/k;two k/" + Checks.lines(10) + ";");
        due(20, twenty.size(3));
        due(20, twenty.join());
        due("20 20 20", twenty.size(0) + " " + twenty.size(1) + " " + twenty.size(2));
        SpeechKeeper more = Checks.of("base k;one " + Checks.lines(10) + "/k;two k/" + Checks.lines(10) + ";");
        due(21, more.size(3));
        due(-1, more.join());
        due(0, more.size(11));
        due(0, more.size(4));
        due(10, more.delete(1, 1));
        due(20, more.join());
    }

    private static void discard() {
        of(28, "A writer that does not exist causes an IndexOutOfBoundsException");
        range(0, 1, ABSENT, writer -> small().discard(writer));
        of(28, "Returns how many changes the writer had");
        SpeechKeeper keeper = Checks.of("base a/b/c;one x/b/y;");
        due(2, keeper.discard(0));
        due(0, keeper.discard(0));
        due(0, keeper.discard(1));
        due("a/b/c", Checks.text(keeper, 1));
        due(3, keeper.size(11));
        due(1, full().discard(1));
    }

    private static void adopt() {
        of(29, "A writer that does not exist causes an IndexOutOfBoundsException");
        range(0, 1, ABSENT, writer -> small().adopt(writer));
        of(29, "Returns how many changes the writer has then");
        SpeechKeeper keeper = Checks.of("base a/b/c;one x/b/y;two;");
        due(2, keeper.adopt(1));
        due("x/b/y", Checks.text(keeper, 2));
        due(2, keeper.adopt(1));
        due(1, keeper.undo());
        due(0, keeper.undo());
        due(1, keeper.adopt(0));
        due("", Checks.text(keeper, 1));
        due("", Checks.text(keeper, 2));
    }

    // ---- reports, undo, snapshots

    private static void report() {
        of(30, "IllegalArgumentException if text is out of range");
        range(0, 3, ILLEGAL, text -> small().report(text));
        of(30, "Writes a text as a report, in place of the one before");
        SpeechKeeper keeper = Checks.of("base ab/c d;one;");
        due("ab\nc d\n", Checks.report(keeper, 2));
        refuses(ILLEGAL, () -> keeper.report(4));
        refuses(ILLEGAL, () -> keeper.report(-1));
        due((int) '\n', keeper.reportByte(6));
        due(0, keeper.report(1));
        due(-1, keeper.reportByte(0));
        due(-1, keeper.reportByte(6));
        due(0, keeper.size(11));
        of(30, "Returns the number of its bytes");
        due(0, new SpeechKeeper().report(0));
        due(2, Checks.of("base a;").report(0));
        due(20 * 16, Checks.of("base " + (EIGHT_WORDS + "/").repeat(19) + EIGHT_WORDS + ";").report(3));
    }

    private static void reportDigits() {
        of(30, "In the BASE and the JOINT text a word whose author is 1, 2 or 3 has the digit of it behind it");
        SpeechKeeper keeper = Checks.of("base n/k/l/m;one x/n/k y/l/z/m;two n/k/l/z/m/w v;");
        due("x1\nn\nk y1\nl\nz3\nm\nw2 v2\n", Checks.report(keeper, 3));
        due("n\nk\nl\nm\n", Checks.report(keeper, 0));
        due("x\nn\nk y\nl\nz\nm\n", Checks.report(keeper, 1));
        due("n\nk\nl\nz\nm\nw v\n", Checks.report(keeper, 2));
        due(7, keeper.join());
        due("x1\nn\nk y1\nl\nz3\nm\nw2 v2\n", Checks.report(keeper, 0));
        due("x\nn\nk y\nl\nz\nm\nw v\n", Checks.report(keeper, 1));
        due("x\nn\nk y\nl\nz\nm\nw v\n", Checks.report(keeper, 2));
    }

    private static void reportByte() {
        of(31, "NONE if there is none such");
        SpeechKeeper keeper = Checks.of("base a;");
        due(-1, keeper.reportByte(0));
        due(2, keeper.report(0));
        due("-1 97 10 -1", keeper.reportByte(-1) + " " + keeper.reportByte(0) + " " + keeper.reportByte(1) + " "
            + keeper.reportByte(2));
        for (int far : FAR) {
            due(-1, keeper.reportByte(far));
        }
        of(31, "Undo and parse() leave it");
        due(false, keeper.saveSnapshot(0));
        due(1, keeper.replace(0, 0, Checks.type(keeper, "b")));
        due(97, keeper.reportByte(0));
        due(1, keeper.join());
        due(1, keeper.undo());
        due(97, keeper.reportByte(0));
        due(0, keeper.restoreSnapshot(0));
        due(97, keeper.reportByte(0));
        due(-3, keeper.parse(0));
        due(97, keeper.reportByte(0));
        due(1, keeper.parse(Checks.type(keeper, "base c d;")));
        due("97 10 -1", keeper.reportByte(0) + " " + keeper.reportByte(1) + " " + keeper.reportByte(2));
    }

    private static void undo() {
        of(32, "Returns how many can still be undone; NONE if there was none to undo");
        SpeechKeeper keeper = Checks.of("base a/b/c;");
        due(-1, keeper.undo());
        due(2, keeper.delete(0, 0));
        due(1, keeper.delete(0, 0));
        due(1, keeper.undo());
        due("b/c", Checks.text(keeper, 1));
        due(0, keeper.undo());
        due("a/b/c", Checks.text(keeper, 1));
        due(-1, keeper.undo());
        due("a/b/c", Checks.text(keeper, 1));
        of(32, "the latest recorded call that has not been undone");
        due(2, keeper.delete(1, 2));
        due(2, keeper.delete(0, 1));
        due(1, keeper.undo());
        due(1, keeper.delete(1, 0));
        due(1, keeper.undo());
        due("a/b", Checks.text(keeper, 2));
        due(0, keeper.undo());
        due("a/b/c", Checks.text(keeper, 2));
    }

    private static void undoneForGood() {
        of(32, "The latest 8 recorded calls can be undone: round the ring, and never more than 8");
        SpeechKeeper keeper = Checks.of("base a;");
        for (int call = 0; call < 13; call++) {
            due(1, keeper.replace(0, 0, Checks.type(keeper, "w" + (char) ('a' + call))));
        }
        for (int call = 11; call >= 9; call--) {
            keeper.undo();
            due("w" + (char) ('a' + call), Checks.text(keeper, 1));
        }
        due(5, keeper.size(11));
        for (int call = 0; call < 4; call++) {
            due(1, keeper.replace(1, 0, Checks.type(keeper, "v" + (char) ('a' + call))));
        }
        due(8, keeper.size(11));
        for (int left = 7; left >= 0; left--) {
            due(left, keeper.undo());
        }
        due("wf a", Checks.text(keeper, 1) + " " + Checks.text(keeper, 2));
        due(-1, keeper.undo());
        due("wf a", Checks.text(keeper, 1) + " " + Checks.text(keeper, 2));
    }

    private static void saveSnapshot() {
        of(33, "IllegalArgumentException if slot is out of range");
        range(0, 1, ILLEGAL, slot -> small().saveSnapshot(slot));
        of(33, "Returns whether there was an earlier one");
        SpeechKeeper keeper = small();
        due(false, keeper.saveSnapshot(1));
        due(true, keeper.saveSnapshot(1));
        due(false, keeper.saveSnapshot(0));
        due(true, keeper.saveSnapshot(0));
        due(0, keeper.size(11));
        of(33, "in place of an earlier one");
        due(1, keeper.delete(0, 0));
        due(true, keeper.saveSnapshot(1));
        due(0, keeper.delete(0, 0));
        due(0, keeper.restoreSnapshot(1));
        due("x y", Checks.text(keeper, 1));
        due(0, keeper.restoreSnapshot(0));
        due("a b/x y", Checks.text(keeper, 1));
    }

    private static void restoreSnapshot() {
        of(34, "IllegalArgumentException if slot is out of range");
        outOfRange(0, 1, ILLEGAL, slot -> small().restoreSnapshot(slot));
        of(34, "NoSuchElementException if the slot is empty");
        for (int slot = 0; slot <= 1; slot++) {
            SpeechKeeper keeper = small();
            int saved = slot;
            due(3, keeper.insert(0, 0, Checks.type(keeper, "q")));
            due(false, keeper.saveSnapshot(saved));
            refuses(EMPTY, () -> keeper.restoreSnapshot(1 - saved));
            due(1, keeper.size(11));
            due(0, keeper.restoreSnapshot(saved));
            refuses(EMPTY, () -> keeper.restoreSnapshot(1 - saved));
        }
        of(34, "Nothing can be undone then");
        SpeechKeeper keeper = small();
        due(1, keeper.delete(0, 0));
        due(false, keeper.saveSnapshot(0));
        due(0, keeper.delete(0, 0));
        due(0, keeper.restoreSnapshot(0));
        due(0, keeper.size(11));
        due(-1, keeper.undo());
        due("x y", Checks.text(keeper, 1));
    }

    private static void snapshotsStay() {
        of(34, "the snapshot of a slot, which stays stored; Returns ROUND then");
        SpeechKeeper keeper = Checks.of("base a;one a/b;");
        due(2, keeper.join());
        due(false, keeper.saveSnapshot(0));
        due(2, keeper.join());
        due(2, keeper.join());
        due(false, keeper.saveSnapshot(1));
        for (int times = 0; times < 3; times++) {
            due(1, keeper.restoreSnapshot(0));
            due(1, keeper.size(4));
            due("0/1", Checks.authors(keeper, false));
            due(1, keeper.delete(0, 0));
            due("b", Checks.text(keeper, 3));
            due(1, keeper.join());
            due(1, keeper.undo());
            due(1, keeper.size(7));
            due(3, keeper.restoreSnapshot(1));
            due(3, keeper.size(4));
            due("a/b", Checks.text(keeper, 0));
            due("a/b", Checks.text(keeper, 3));
            due(0, keeper.size(7));
        }
        due(true, keeper.saveSnapshot(0));
        due(true, keeper.saveSnapshot(1));
    }

    private static void checksum() {
        of(35, "It is 0 at first; each number n replaces it by 31 * checksum + n");
        SpeechKeeper keeper = new SpeechKeeper();
        due(0L, keeper.checksum());
        due(0, keeper.join());
        // ROUND is the fifth of eleven numbers
        due(31L * 31 * 31 * 31 * 31 * 31, keeper.checksum());
        of(35, "size(0) to size(10)");
        due(0, keeper.undo());
        due(0L, keeper.checksum());
        due(0, keeper.join());
        due(0, keeper.discard(0));
        Checks.type(keeper, "x");
        due(31L * 31 * 31 * 31 * 31 * 31, keeper.checksum());
    }

    private static void checksumWraps() {
        of(35, "as a long that wraps");
        SpeechKeeper keeper = Checks.of("base a/b c/abcdefgh;one a/x/abcdefgh;two z/y/abcdefgh;");
        due(0, keeper.decide(0, 3));
        List<Integer> numbers = new ArrayList<>();
        for (int what = 0; what <= 10; what++) {
            numbers.add(keeper.size(what));
        }
        for (int text = 0; text <= 3; text++) {
            for (int line = 0; line < keeper.size(text); line++) {
                numbers.add(keeper.line(text, line, 0));
                addWords(keeper, text, line, numbers);
            }
        }
        for (int block = 0; block < keeper.size(7); block++) {
            for (int what = 0; what <= 6; what++) {
                numbers.add(keeper.block(block, what));
            }
        }
        BigInteger sum = BigInteger.ZERO;
        for (int number : numbers) {
            sum = sum.multiply(BigInteger.valueOf(31)).add(BigInteger.valueOf(number));
        }
        due(true, sum.bitLength() > 64);
        due(sum.longValue(), keeper.checksum());
        due(sum.longValue(), keeper.checksum());
    }

    private static void addWords(SpeechKeeper keeper, int text, int line, List<Integer> numbers) {
        for (int word = 0; word < keeper.line(text, line, 0); word++) {
            for (int index = 0; keeper.letter(text, line, word, index) != 0; index++) {
                numbers.add(keeper.letter(text, line, word, index));
            }
            if (text == 0 || text == 3) {
                numbers.add(keeper.author(text == 3, line, word));
            }
        }
    }
}
