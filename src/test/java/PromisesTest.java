import java.util.NoSuchElementException;

/** Each promise by ordinary inputs, at its edges and with wrong inputs, with answers worked out by hand. */
public final class PromisesTest {
    private static final Class<IllegalArgumentException> ILLEGAL = IllegalArgumentException.class;
    private static final Class<IndexOutOfBoundsException> ABSENT = IndexOutOfBoundsException.class;

    private static final Checks CHECKS = new Checks();

    /** The writer 0 wrote x for b, the writer 1 y and z: a clash; both wrote an e at the end: agreed. */
    private static final String CLASH = "base a/b/c/d; one a/x/c/d/e; two a/y/z/c/d/e;";

    private static void due(Object want, Object got) {
        CHECKS.due(want, got);
    }

    private static void refuses(Class<? extends RuntimeException> want, Checks.Call call) {
        CHECKS.refuses(want, call);
    }

    public static void main(String[] args) {
        newObject();
        append();
        parse();
        parseErrors();
        size();
        line();
        letter();
        author();
        authorsOfSides();
        change();
        changesOfRows();
        meet();
        block();
        blockNumbers();
        common();
        occurrences();
        share();
        meanWords();
        safeLines();
        wouldClash();
        fewestBack();
        fewestWords();
        mostWords();
        insert();
        replace();
        delete();
        deleteWord();
        move();
        takeBack();
        decide();
        openedDecisions();
        join();
        discard();
        adopt();
        report();
        reportByte();
        undo();
        saveSnapshot();
        restoreSnapshot();
        checksum();
        CHECKS.end("PromisesTest");
    }

    private static void newObject() {
        CHECKS.begin("promise 1");
        SpeechKeeper keeper = new SpeechKeeper();
        for (int what = 0; what <= 12; what++) {
            due(0, keeper.size(what));
        }
        due(-1, SpeechKeeper.NONE);
        due(-1, keeper.reportByte(0));
        due(-1, keeper.undo());
        refuses(NoSuchElementException.class, () -> keeper.restoreSnapshot(0));
        refuses(NoSuchElementException.class, () -> keeper.restoreSnapshot(1));
        refuses(ABSENT, () -> keeper.line(0, 0, 0));
        refuses(ABSENT, () -> keeper.change(0, 0, 0));
        refuses(ABSENT, () -> keeper.block(0, 0));
        due(1, keeper.insert(0, 0, Checks.type(keeper, "hello")));
        due("hello", Checks.text(keeper, 1));
        due("", Checks.text(keeper, 2));
    }

    private static void append() {
        CHECKS.begin("promise 2");
        SpeechKeeper keeper = new SpeechKeeper();
        // "base", " z;o", "ne a", "bc;t", "wo \n", ";   "
        due(20, keeper.append(0x62617365, 0x207a3b6f, 0x6e652061, 0x62633b74, 0x776f200a));
        due(40, keeper.append(0x3b202020, 0x20202020, 0x20202020, 0x20202020, 0x20202020));
        due(1, keeper.parse(21));
        due("z", Checks.text(keeper, 0));
        due("abc", Checks.text(keeper, 1));
        due("", Checks.text(keeper, 2));
        for (int length = 20; length <= 700; length += 20) {
            due(length, keeper.append(-1, 0, Integer.MIN_VALUE, Integer.MAX_VALUE, 1));
        }
        due(-1, keeper.append(0, 0, 0, 0, 0));
        due(700, keeper.size(12));
        due(-3, keeper.parse(700));
        due(20, keeper.append(0, 0, 0, 0, 0));
    }

    private static void parse() {
        CHECKS.begin("promise 3");
        SpeechKeeper keeper = Checks.of("base fair is/foul;\n one fair/is foul ;two;");
        due("fair is/foul", Checks.text(keeper, 0));
        due("fair/is foul", Checks.text(keeper, 1));
        due("", Checks.text(keeper, 2));
        due("00/0", Checks.authors(keeper, false));
        due(0, keeper.size(12));
        due("two/base one/one", Checks.text(Checks.of("base two/base one/one;"), 2));
        due("x", Checks.text(Checks.of("base a;two x;"), 2));
        due("a", Checks.text(Checks.of("base a;two x;"), 1));
        due("a", Checks.text(Checks.of("base a;one x;"), 2));
        due("", Checks.text(Checks.of("base;"), 0));
        due(20, Checks.of("base " + Checks.lines(20) + ";").size(0));
        due("a b c d e f g eighteen", Checks.text(Checks.of("base a b c d e f g eighteen;"), 0));
        due("a", Checks.text(Checks.of("base\na\n;"), 0));
        // the rest of the buffer is gone too
        Checks.type(keeper, "base q;one w;");
        due(1, keeper.parse(7));
        due("q", Checks.text(keeper, 1));
        due(0, keeper.size(12));
        parseStartsAnew();
        parseRange();
    }

    private static void parseStartsAnew() {
        SpeechKeeper keeper = Checks.of(CLASH);
        due(0, keeper.decide(0, 1));
        due(5, keeper.join());
        due(false, keeper.saveSnapshot(0));
        due(false, keeper.saveSnapshot(1));
        due(10, keeper.report(2));
        long before = keeper.checksum();
        // an error leaves all but the buffer
        due(-2 - 49, keeper.parse(Checks.type(keeper, "base a")));
        due(before, keeper.checksum());
        due(0, keeper.size(12));
        due(2, keeper.size(11));
        due(true, keeper.saveSnapshot(0));
        due(4, keeper.parse(Checks.type(keeper, CLASH)));
        due(0, keeper.size(4));
        due(0, keeper.size(11));
        due(-1, keeper.undo());
        due(0, keeper.block(0, 5));
        due("0/0/0/0", Checks.authors(keeper, false));
        refuses(NoSuchElementException.class, () -> keeper.restoreSnapshot(0));
        refuses(NoSuchElementException.class, () -> keeper.restoreSnapshot(1));
        due((int) 'a', keeper.reportByte(0));
        due((int) '\n', keeper.reportByte(9));
        due(-1, keeper.reportByte(10));
    }

    private static void parseRange() {
        SpeechKeeper keeper = Checks.of(CLASH);
        long before = keeper.checksum();
        Checks.type(keeper, "base b;");
        refuses(ILLEGAL, () -> keeper.parse(-1));
        refuses(ILLEGAL, () -> keeper.parse(21));
        refuses(ILLEGAL, () -> keeper.parse(Integer.MAX_VALUE));
        refuses(ILLEGAL, () -> keeper.parse(Integer.MIN_VALUE));
        due(20, keeper.size(12));
        due(before, keeper.checksum());
        due(1, keeper.parse(20));
        due(-3, keeper.parse(0));
    }

    private static void parseErrors() {
        CHECKS.begin("promise 3, errors");
        due("0 1", Checks.error(""));
        due("3 1", Checks.error(" \n "));
        due("0 1", Checks.error("one a;"));
        due("0 1", Checks.error("bas;"));
        due("0 1", Checks.error("based;"));
        due("0 1", Checks.error("baselessness;"));
        due("0 1", Checks.error("Base;"));
        due("4 1", Checks.error("base"));
        due("4 1", Checks.error("base/a;"));
        due("5 1", Checks.error("base /a;"));
        due("6 1", Checks.error("base a"));
        due("7 1", Checks.error("base a "));
        due("7 1", Checks.error("base a/;"));
        due("7 1", Checks.error("base a//b;"));
        due("8 1", Checks.error("base a/ "));
        due("6 1", Checks.error("base aB;"));
        due("5 1", Checks.error("base \u00e4;"));
        due("6 1", Checks.error("base a\t;"));
        due("6 1", Checks.error("base a`;"));
        due("6 1", Checks.error("base a{;"));
        due("7 1", Checks.error("base a;;"));
        due("7 1", Checks.error("base a;/"));
        due("7 1", Checks.error("base a;base b;"));
        due("8 1", Checks.error("base a; ones a;"));
        due("8 1", Checks.error("base a; onelongword a;"));
        due("8 1", Checks.error("base a; on a;"));
        due("11 1", Checks.error("base a; one"));
        due("13 1", Checks.error("base a;one b;one b;"));
        due("13 1", Checks.error("base a;two b;one b;"));
        due("13 1", Checks.error("base a;two b;two b;"));
        due("19 1", Checks.error("base a;one b;two b;x"));
        due("19 1", Checks.error("base a;one b;two b;;"));
        due("no error", Checks.error("base a;one b;two b;\n"));
        due("5 2", Checks.error("base ninechars;"));
        due("no error", Checks.error("base eighteen;"));
        due("7 2", Checks.error("base a ninechars//;"));
        due("7 2", Checks.error("base a/muchtoolongtobeaword;"));
        due("21 3", Checks.error("base a b c d e f g h i;"));
        due("21 2", Checks.error("base a b c d e f g h ninechars;"));
        due("12 1", Checks.error("base a b c d1e f g h i;"));
        due("27 3", Checks.error("base a;one a b c d e f g h i;"));
        due("45 4", Checks.error("base " + Checks.lines(21) + ";"));
        due("45 2", Checks.error("base " + Checks.lines(20) + "/ninechars;"));
        due("45 1", Checks.error("base " + Checks.lines(20) + "/;"));
        due("44 1", Checks.error("base " + Checks.lines(20) + "."));
        due("51 4", Checks.error("base a;two " + Checks.lines(21) + ";"));
        due("51 4", Checks.error("base a;one " + Checks.lines(21) + ";"));
        due("no error", Checks.error("base a;one " + Checks.lines(20) + ";two " + Checks.lines(20) + ";"));
    }

    private static void size() {
        CHECKS.begin("promise 4");
        SpeechKeeper keeper = Checks.of(CLASH);
        int[] want = {4, 5, 6, 5, 0, 2, 2, 2, 1, 1, 1, 0, 0};
        for (int what = 0; what < want.length; what++) {
            due(want[what], keeper.size(what));
        }
        due(0, keeper.decide(0, 3));
        due(7, keeper.size(3));
        due(1, keeper.size(8));
        due(0, keeper.size(9));
        due(1, keeper.size(11));
        Checks.type(keeper, "a");
        due(20, keeper.size(12));
        due(7, keeper.join());
        due(1, keeper.size(4));
        for (int line = 0; line < 10; line++) {
            keeper.move(0, 0, 0);
            due(Math.min(line + 3, 8), keeper.size(11));
        }
        refuses(ILLEGAL, () -> keeper.size(-1));
        refuses(ILLEGAL, () -> keeper.size(13));
        // more than 20 lines are told all the same
        SpeechKeeper large = Checks.of("base " + Checks.lines(10) + ";one " + Checks.lines(10) + "/" + Checks.lines(10)
            + ";two z/y/x/w/v/u/t/s/r/q/" + Checks.lines(10) + ";");
        due(30, large.size(3));
        due("j", Checks.word(large, 3, 29, 0));
    }

    private static void line() {
        CHECKS.begin("promise 5");
        SpeechKeeper keeper = Checks.of("base now is the winter/of; one our; two discord/a bb ccc;");
        due(4, keeper.line(0, 0, 0));
        due(14, keeper.line(0, 0, 1));
        due(1, keeper.line(0, 1, 0));
        due(2, keeper.line(0, 1, 1));
        due(3, keeper.line(1, 0, 1));
        due(7, keeper.line(2, 0, 1));
        due(6, keeper.line(2, 1, 1));
        due(3, keeper.line(2, 1, 0));
        due(4, keeper.line(3, 0, 0));
        refuses(ILLEGAL, () -> keeper.line(-1, 0, 0));
        refuses(ILLEGAL, () -> keeper.line(4, 99, 0));
        refuses(ILLEGAL, () -> keeper.line(0, 99, 2));
        refuses(ILLEGAL, () -> keeper.line(0, 0, -1));
        refuses(ABSENT, () -> keeper.line(0, 2, 0));
        refuses(ABSENT, () -> keeper.line(0, -1, 1));
        refuses(ABSENT, () -> keeper.line(1, 1, 1));
        refuses(ABSENT, () -> keeper.line(3, Integer.MAX_VALUE, 1));
    }

    private static void letter() {
        CHECKS.begin("promise 6");
        SpeechKeeper keeper = Checks.of("base az/b; one az/eighteen c; two az/b;");
        due(1, keeper.letter(0, 0, 0, 0));
        due(26, keeper.letter(0, 0, 0, 1));
        due(0, keeper.letter(0, 0, 0, 2));
        due(0, keeper.letter(0, 0, 0, -1));
        due(0, keeper.letter(0, 0, 0, Integer.MIN_VALUE));
        due(0, keeper.letter(0, 0, 0, Integer.MAX_VALUE));
        due(14, keeper.letter(1, 1, 0, 7));
        due(0, keeper.letter(1, 1, 0, 8));
        due(0, keeper.letter(1, 1, 0, 64));
        due(3, keeper.letter(1, 1, 1, 0));
        due(5, keeper.letter(3, 1, 0, 0));
        due(2, keeper.letter(2, 1, 0, 0));
        refuses(ILLEGAL, () -> keeper.letter(4, 0, 0, 0));
        refuses(ILLEGAL, () -> keeper.letter(-1, 9, 9, 9));
        refuses(ABSENT, () -> keeper.letter(0, 2, 0, 0));
        refuses(ABSENT, () -> keeper.letter(0, -1, 0, 0));
        refuses(ABSENT, () -> keeper.letter(0, 0, 1, 0));
        refuses(ABSENT, () -> keeper.letter(0, 0, -1, 0));
        refuses(ABSENT, () -> keeper.letter(1, 1, 2, 99));
    }

    private static void author() {
        CHECKS.begin("promise 7");
        SpeechKeeper keeper = Checks.of(CLASH);
        due("0/0/0/0", Checks.authors(keeper, false));
        due("0/0/0/0/3", Checks.authors(keeper, true));
        due(0, keeper.decide(0, 3));
        due("a/x/y/z/c/d/e", Checks.text(keeper, 3));
        due("0/1/2/2/0/0/3", Checks.authors(keeper, true));
        due(7, keeper.join());
        due("0/1/2/2/0/0/3", Checks.authors(keeper, false));
        due("0/1/2/2/0/0/3", Checks.authors(keeper, true));
        refuses(ABSENT, () -> keeper.author(false, 7, 0));
        refuses(ABSENT, () -> keeper.author(true, 7, 0));
        refuses(ABSENT, () -> keeper.author(true, -1, 0));
        refuses(ABSENT, () -> keeper.author(false, 0, 1));
        refuses(ABSENT, () -> keeper.author(false, 0, -1));
    }

    private static void authorsOfSides() {
        CHECKS.begin("authors");
        // all words of the block are one row: c d goes over from one line to the other
        SpeechKeeper rows = Checks.of("base a b/c d;one a x/b c d;two a b/c d;");
        due("01/000", Checks.authors(rows, true));
        // each side is laid beside the BASE by itself
        SpeechKeeper both = Checks.of("base p q/r;one p x/r;two q y/r;");
        due(0, both.decide(0, 3));
        due("p x/q y/r", Checks.text(both, 3));
        due("01/02/0", Checks.authors(both, true));
        due(3, both.decide(0, 4));
        due("00/0", Checks.authors(both, true));
        // an agreed side has words of both
        due("030", Checks.authors(Checks.of("base a b;one a z b;two a z b;"), true));
        // of equal words, the first are pairs
        due("0101", Checks.authors(Checks.of("base a b;one a a b b;two a b;"), true));
        // LONG is the same either way: a is gone first, b is a pair
        due("01", Checks.authors(Checks.of("base a b;one b a;"), true));
        // words that stayed keep their authors over rounds, others get new ones
        SpeechKeeper later = Checks.of("base a b;one a x b;");
        due(1, later.join());
        due(3, later.replace(1, 0, Checks.type(later, "x y")));
        due("12", Checks.authors(later, true));
        due(1, later.join());
        due("12", Checks.authors(later, false));
        due(2, later.replace(0, 0, Checks.type(later, "y b x")));
        due("211", Checks.authors(later, true));
        due(1, later.adopt(1));
        due("233", Checks.authors(later, true));
    }

    private static void change() {
        CHECKS.begin("promise 8");
        SpeechKeeper keeper = Checks.of(CLASH);
        due("1 2 1 2 0", Checks.change(keeper, 0, 0));
        due("4 4 4 5 1", Checks.change(keeper, 0, 1));
        due("1 2 1 3 0", Checks.change(keeper, 1, 0));
        due("4 4 5 6 1", Checks.change(keeper, 1, 1));
        refuses(ABSENT, () -> keeper.change(2, 0, 0));
        refuses(ABSENT, () -> keeper.change(-1, 0, 9));
        refuses(ABSENT, () -> keeper.change(0, 2, 9));
        refuses(ABSENT, () -> keeper.change(0, -1, 0));
        refuses(ILLEGAL, () -> keeper.change(0, 0, 5));
        refuses(ILLEGAL, () -> keeper.change(0, 0, -1));
    }

    private static void changesOfRows() {
        CHECKS.begin("rows side by side");
        // b a for a b: LONG is the same either way, so a is gone first and b is a pair
        SpeechKeeper turned = Checks.of("base a/b;one b/a;");
        due("0 1 0 0 0", Checks.change(turned, 0, 0));
        due("2 2 1 2 1", Checks.change(turned, 0, 1));
        due(2, turned.size(5));
        // what is left in a row is gone or new
        due("1 3 1 1 0", Checks.change(Checks.of("base a/b/c;one a;"), 0, 0));
        due("0 0 0 2 0", Checks.change(Checks.of("base c;one a/b/c;"), 0, 0));
        due("0 2 0 3 0", Checks.change(Checks.of("base a/b;one c/d/e;"), 0, 0));
        due("1 1 1 2 0", Checks.change(Checks.of("base a/a;one a/b/a;"), 0, 0));
        due("2 2 2 3 0", Checks.change(Checks.of("base a/a;one a/a/a;"), 0, 0));
        due("0 1 0 0 0", Checks.change(Checks.of("base x/a/b;one a/b;"), 0, 0));
        due("0 2 0 0 0", Checks.change(Checks.of("base a/b/c/d;one c/d/a/b;"), 0, 0));
        // lines are equal by all their words, and by their order
        due("0 1 0 1 0", Checks.change(Checks.of("base a b/c;one b a/c;"), 0, 0));
        due("0 1 0 1 0", Checks.change(Checks.of("base a b/c;one a/c;"), 0, 0));
        due("0 1 0 1 0", Checks.change(Checks.of("base ab c/c;one a bc/c;"), 0, 0));
        due(0, Checks.of("base;").size(5));
        due("0 0 0 1 0", Checks.change(Checks.of("base;one a;"), 0, 0));
    }

    private static boolean meets(String setup) {
        return Checks.of(setup).meet(0, 0);
    }

    private static void meet() {
        CHECKS.begin("promise 9");
        due(true, meets("base a/b/c;one a/x/c;two a/c;"));
        due(true, meets("base a/b/c;one x/y/c;two a/x/y;"));
        due(false, meets("base a/b/c;one x/b/c;two a/y/c;"));
        // a change without lines of the BASE meets one around it, not one beside it
        due(true, meets("base a/b/c/d;one a/x/d;two a/b/y/c/d;"));
        due(true, meets("base a/b/c/d;one a/b/y/c/d;two a/x/d;"));
        due(false, meets("base a/b/c/d;one a/x/d;two a/y/b/c/d;"));
        due(false, meets("base a/b/c/d;one a/x/d;two a/b/c/y/d;"));
        due(false, meets("base a/b/c/d;one a/y/b/c/d;two a/x/d;"));
        due(false, meets("base a/b/c/d;one a/b/c/y/d;two a/x/d;"));
        // two without lines meet at the same place
        due(true, meets("base a/b;one a/x/b;two a/y/b;"));
        due(false, meets("base a/b;one a/x/b;two a/b/y;"));
        due(true, meets("base;one a;two b;"));
        // equal changes meet too
        due(true, meets("base a/b;one a/x/b;two a/x/b;"));
        SpeechKeeper keeper = Checks.of(CLASH);
        due(true, keeper.meet(0, 0));
        due(false, keeper.meet(0, 1));
        due(false, keeper.meet(1, 0));
        due(true, keeper.meet(1, 1));
        refuses(ABSENT, () -> keeper.meet(2, 0));
        refuses(ABSENT, () -> keeper.meet(0, 2));
        refuses(ABSENT, () -> keeper.meet(-1, 0));
        refuses(ABSENT, () -> keeper.meet(0, -1));
        refuses(ABSENT, () -> Checks.of("base a;one b;").meet(0, 0));
    }

    private static void block() {
        CHECKS.begin("promise 10");
        SpeechKeeper keeper = Checks.of(CLASH);
        due("3 1 2 1 2 0 2", Checks.block(keeper, 0));
        due("2 4 4 1 1 0 2", Checks.block(keeper, 1));
        due(0, keeper.decide(0, 2));
        due("3 1 2 1 2 2 2", Checks.block(keeper, 0));
        due("0 1 2 2 1 0 1", Checks.block(Checks.of("base a/b;one a/x/y;"), 0));
        due("1 1 2 1 0 0 1", Checks.block(Checks.of("base a/b;two a;"), 0));
        // sides that are equal line by line are agreed, though the changes differ
        due("2 0 3 2 2 0 2", Checks.block(Checks.of("base a/b/c;one p/q;two p/q;"), 0));
        due("3 0 2 2 2 0 2", Checks.block(Checks.of("base a/b;one p q/r;two p/q r;"), 0));
        // changes of both, one after the other, make one block
        SpeechKeeper chain = Checks.of("base a/b/c/d/e/f;one x/c/y/f;two a/z/e/f;");
        due("3 0 5 3 3 0 3", Checks.block(chain, 0));
        due(1, chain.size(7));
        refuses(ABSENT, () -> keeper.block(2, 0));
        refuses(ABSENT, () -> keeper.block(-1, 9));
        refuses(ABSENT, () -> keeper.block(2, 9));
        refuses(ILLEGAL, () -> keeper.block(0, 7));
        refuses(ILLEGAL, () -> keeper.block(0, -1));
    }

    private static void blockNumbers() {
        CHECKS.begin("block numbers");
        // at one FROM, what has no line comes first, whoever wrote it
        SpeechKeeper keeper = Checks.of("base a/b/c;one a/x/c;two a/y/b/c;");
        due("1 1 1 0 1 0 1", Checks.block(keeper, 0));
        due("0 1 2 1 1 0 1", Checks.block(keeper, 1));
        due("a/y/x/c", Checks.text(keeper, 3));
        SpeechKeeper other = Checks.of("base a/b/c;one a/y/b/c;two a/x/c;");
        due("0 1 1 1 0 0 1", Checks.block(other, 0));
        due("1 1 2 1 1 0 1", Checks.block(other, 1));
        due("a/y/x/c", Checks.text(other, 3));
        // a block that ends where one begins is another one
        SpeechKeeper beside = Checks.of("base a/b/c/d;one x/c/d;two a/b/y;");
        due("0 0 2 1 2 0 1", Checks.block(beside, 0));
        due("1 2 4 2 1 0 1", Checks.block(beside, 1));
        due("x/y", Checks.text(beside, 3));
        SpeechKeeper behind = Checks.of("base a/b/c;one a/x/c;two a/b/y/c;");
        due("a/x/y/c", Checks.text(behind, 3));
        due(2, behind.size(7));
        due("1 2 1 2 0", Checks.change(behind, 0, 0));
        due("2 2 2 3 1", Checks.change(behind, 1, 0));
    }

    private static void common() {
        CHECKS.begin("promise 11");
        SpeechKeeper keeper = Checks.of("base a b c/d/a c;one c b a/d d/a c;two x;");
        due(1, keeper.common(0, 0, 1, 0));
        due(2, keeper.common(0, 0, 1, 2));
        due(3, keeper.common(0, 0, 0, 0));
        due(1, keeper.common(0, 1, 1, 1));
        due(0, keeper.common(0, 1, 2, 0));
        due(1, keeper.common(0, -1, 1, -1));
        due(3, keeper.common(0, -1, 0, -1));
        due(0, keeper.common(2, -1, 0, -1));
        due(3, Checks.of("base a/x/b/y/c;one a/b/c;").common(0, -1, 1, -1));
        due(3, keeper.common(3, 0, 0, 0));
        due(3, keeper.common(3, -1, 3, -1));
        due(1, keeper.common(3, -1, 1, -1));
        // one line alone, without those behind it
        SpeechKeeper split = Checks.of("base a/b;one a b;");
        due(1, split.common(0, 0, 1, 0));
        due(1, split.common(1, 0, 0, 0));
        refuses(ILLEGAL, () -> keeper.common(4, 0, 0, 0));
        refuses(ILLEGAL, () -> keeper.common(-1, 9, 0, 9));
        refuses(ILLEGAL, () -> keeper.common(0, 0, 4, 0));
        refuses(ILLEGAL, () -> keeper.common(0, 0, -1, 0));
        refuses(ILLEGAL, () -> keeper.common(0, -1, 1, 0));
        refuses(ILLEGAL, () -> keeper.common(0, 0, 1, -1));
        refuses(ILLEGAL, () -> keeper.common(0, -1, 1, 99));
        refuses(ILLEGAL, () -> keeper.common(0, -2, 1, -1));
        refuses(ABSENT, () -> keeper.common(0, -2, 1, -2));
        refuses(ABSENT, () -> keeper.common(0, 3, 1, 0));
        refuses(ABSENT, () -> keeper.common(0, 0, 2, 1));
        refuses(ABSENT, () -> keeper.common(0, 0, 2, -2));
    }

    private static void occurrences() {
        CHECKS.begin("promise 12");
        SpeechKeeper keeper = Checks.of("base to be or/not to be;one to;two eighteen;");
        due(2, keeper.occurrences(0, Checks.type(keeper, "to")));
        due(0, keeper.size(12));
        due(1, keeper.occurrences(1, Checks.type(keeper, "to")));
        due(0, keeper.occurrences(0, Checks.type(keeper, "t")));
        due(1, keeper.occurrences(2, Checks.type(keeper, "eighteen")));
        due(1, keeper.occurrences(3, Checks.type(keeper, "or")));
        Checks.type(keeper, "tobe");
        due(2, keeper.occurrences(0, 2));
        due(0, keeper.size(12));
        due(-1, keeper.occurrences(0, Checks.type(keeper, "to ")));
        due(0, keeper.size(12));
        due(-1, keeper.occurrences(0, Checks.type(keeper, "To")));
        due(-1, keeper.occurrences(0, Checks.type(keeper, "t1")));
        refuses(ILLEGAL, () -> keeper.occurrences(0, 1));
        Checks.type(keeper, "to");
        refuses(ILLEGAL, () -> keeper.occurrences(4, 2));
        refuses(ILLEGAL, () -> keeper.occurrences(-1, 2));
        refuses(ILLEGAL, () -> keeper.occurrences(0, 0));
        refuses(ILLEGAL, () -> keeper.occurrences(0, -1));
        refuses(ILLEGAL, () -> keeper.occurrences(0, 9));
        due(20, keeper.size(12));
        due(2, keeper.occurrences(0, 2));
    }

    private static void share() {
        CHECKS.begin("promise 13");
        SpeechKeeper keeper = Checks.of(CLASH);
        due(4.0f / 5.0f, keeper.share(0));
        due(0.0f, keeper.share(1));
        due(1.0f / 5.0f, keeper.share(3));
        due(0, keeper.decide(0, 3));
        due(3.0f / 7.0f, keeper.share(0));
        due(1.0f / 7.0f, keeper.share(1));
        due(2.0f / 7.0f, keeper.share(2));
        due(0.0f, Checks.of("base;").share(0));
        due(0.0f, Checks.of("base;").share(3));
        refuses(ILLEGAL, () -> keeper.share(-1));
        refuses(ILLEGAL, () -> keeper.share(4));
    }

    private static void meanWords() {
        CHECKS.begin("promise 14");
        SpeechKeeper keeper = Checks.of("base a b/c/d e f/g;one a;two;");
        due(7.0 / 4.0, keeper.meanWords(0));
        due(1.0, keeper.meanWords(1));
        due(0.0, keeper.meanWords(2));
        due(7.0 / 4.0, keeper.meanWords(3));
        due(4.0 / 3.0, Checks.of("base a b/c/d;").meanWords(3));
        refuses(ILLEGAL, () -> keeper.meanWords(-1));
        refuses(ILLEGAL, () -> keeper.meanWords(4));
    }

    private static void safeLines() {
        CHECKS.begin("promise 15");
        SpeechKeeper keeper = Checks.of("base a/b/c/d;one a/x/c/d;two a/b/y/c;");
        due(1 + 2 + 4, keeper.safeLines(0));
        due(1 + 4 + 8, keeper.safeLines(1));
        due((1 << 20) - 1, Checks.of("base " + Checks.lines(20) + ";").safeLines(1));
        due(0, Checks.of("base a/b;one;").safeLines(1));
        due(0, Checks.of("base;").safeLines(0));
        refuses(ABSENT, () -> keeper.safeLines(2));
        refuses(ABSENT, () -> keeper.safeLines(-1));
    }

    private static void wouldClash() {
        CHECKS.begin("promise 16");
        SpeechKeeper keeper = Checks.of("base a/b/c/d;two a/x/c/d;");
        long before = keeper.checksum();
        due(true, keeper.wouldClash(0, 1));
        due(false, keeper.wouldClash(0, 0));
        due(false, keeper.wouldClash(0, 3));
        due(false, keeper.wouldClash(1, 1));
        due(before, keeper.checksum());
        // the same as the other writer did is no clash
        due(false, Checks.of("base a/b/c;two a/c;").wouldClash(0, 1));
        due(true, Checks.of("base a/b/c;one a/x/c;").wouldClash(1, 1));
        // not more clashes than there are
        due(false, Checks.of(CLASH).wouldClash(0, 1));
        due(false, Checks.of(CLASH).wouldClash(0, 4));
        due(true, Checks.of("base a/b/c/d;one a/x/c/d;two a/y/c/z;").wouldClash(0, 3));
        refuses(ABSENT, () -> keeper.wouldClash(2, 0));
        refuses(ABSENT, () -> keeper.wouldClash(-1, 0));
        refuses(ABSENT, () -> keeper.wouldClash(0, 4));
        refuses(ABSENT, () -> keeper.wouldClash(1, -1));
        refuses(ABSENT, () -> Checks.of("base a/b;one a;").wouldClash(0, 1));
    }

    private static void fewestBack() {
        CHECKS.begin("promise 17");
        due(1, Checks.of(CLASH).fewestBack());
        due(0, Checks.of("base a/b/c;one x/b/c;two a/b/y;").fewestBack());
        due(0, Checks.of("base a/b/c;one a/x/c;two a/x/c;").fewestBack());
        // one change of the writer 1 meets two of the writer 0: without it none meet
        due(1, Checks.of("base a/b/c/d/e/f;one x/c/y/f;two a/z/e/f;").fewestBack());
        due(2, Checks.of("base a/b/c/d/e;one a/x/c/y/e;two a/p/c/q/e;").fewestBack());
        // a row of four that meet, one after the other: two must go
        due(2, Checks.of("base a/b/c/d/e/f/g/h;one x/c/y/g/h;two a/p/e/q/h;").fewestBack());
        due(0, new SpeechKeeper().fewestBack());
    }

    private static void fewestWords() {
        CHECKS.begin("promise 18");
        due(5, Checks.of(CLASH).fewestWords());
        due(2, Checks.of("base a/b b/c;one a/x x x/c;two a/c;").fewestWords());
        due(3, Checks.of("base a/b/c;one a/x x x/c;two a/y y/c;").fewestWords());
        due(2, Checks.of("base a/c;one a/x x x/c;two a/y/c;").fewestWords());
        due(3, Checks.of("base a/b b/c;one a/x/c;two a/y y y/c;").fewestWords());
        // what is decided now does not count
        SpeechKeeper keeper = Checks.of(CLASH);
        due(0, keeper.decide(0, 3));
        due(5, keeper.fewestWords());
        due(4, Checks.of("base a/b;one a x/b;two a/b y;").fewestWords());
        // however many lines it has
        due(30, Checks.of("base " + Checks.lines(10) + ";one " + Checks.lines(10) + "/" + Checks.lines(10)
            + ";two z/y/x/w/v/u/t/s/r/q/" + Checks.lines(10) + ";").fewestWords());
    }

    private static void mostWords() {
        CHECKS.begin("promise 19");
        due(7, Checks.of(CLASH).mostWords());
        due(0, new SpeechKeeper().mostWords());
        due(4, Checks.of("base a/b b/c;one a/c;two a/x/c;").mostWords());
        due(4, Checks.of("base a/b;one a x/b;two a/b y;").mostWords());
        // 17 lines beside the clash: both sides would make 21, then 19
        String rest = Checks.lines(17, 'b');
        due(17 + 5, Checks.of("base a/" + rest + ";one x x x x x/" + rest + ";two p/q/r/" + rest + ";").mostWords());
        due(17 + 6, Checks.of("base a/" + rest + ";one x x x x x/" + rest + ";two p/" + rest + ";").mostWords());
        due(20, Checks.of("base " + Checks.lines(20) + ";one " + Checks.lines(19) + "/x;two " + Checks.lines(19)
            + "/y;").mostWords());
        // more than 20 lines by all decisions
        String lines = Checks.lines(10);
        due(-1, Checks.of("base " + lines + ";one " + lines + "/" + lines + ";two z/y/x/w/v/u/t/s/r/q/" + lines + ";")
            .mostWords());
        // two clashes, of which one can have both sides
        due(17 + 4 + 3, Checks.of("base a/" + Checks.lines(17, 'b') + "/z;one x x/" + Checks.lines(17, 'b')
            + "/y y y;two p p/" + Checks.lines(17, 'b') + "/q;").mostWords());
    }

    private static void insert() {
        CHECKS.begin("promise 20");
        SpeechKeeper keeper = Checks.of("base a/b;");
        due(3, keeper.insert(0, 2, Checks.type(keeper, "my last")));
        due(4, keeper.insert(0, 0, Checks.type(keeper, "  my  first ")));
        due("my first/a/b/my last", Checks.text(keeper, 1));
        due("a/b", Checks.text(keeper, 2));
        due(0, keeper.size(12));
        due(3, keeper.insert(1, 1, Checks.type(keeper, "a b c d e f g eighteen")));
        due("a/a b c d e f g eighteen/b", Checks.text(keeper, 2));
        Checks.type(keeper, "yes no");
        due(4, keeper.insert(1, 3, 4));
        due("yes", Checks.word(keeper, 2, 3, 0));
        due(0, keeper.size(12));
        due(4, keeper.size(11));
        long before = keeper.checksum();
        Checks.type(keeper, "x");
        refuses(ABSENT, () -> keeper.insert(2, 0, 1));
        refuses(ABSENT, () -> keeper.insert(-1, 0, 99));
        refuses(ABSENT, () -> keeper.insert(0, 5, 1));
        refuses(ABSENT, () -> keeper.insert(0, -1, 0));
        refuses(ILLEGAL, () -> keeper.insert(0, 0, 0));
        refuses(ILLEGAL, () -> keeper.insert(0, 0, 21));
        refuses(ILLEGAL, () -> keeper.insert(0, 0, -1));
        due(20, keeper.size(12));
        due(before, keeper.checksum());
        due(5, keeper.insert(0, 4, 20));
        notLines();
        insertIntoFull();
    }

    private static void notLines() {
        String[] wrong = {" ", "a b c d e f g h i", "ninechars", "a;", "a/b", "a\nb", "A", "a1", "\u00e9"};
        for (String line : wrong) {
            SpeechKeeper keeper = Checks.of("base a/b;");
            int bytes = Checks.type(keeper, line);
            refuses(ILLEGAL, () -> keeper.insert(0, 0, bytes));
            refuses(ILLEGAL, () -> keeper.replace(0, 0, bytes));
            due((bytes + 19) / 20 * 20, keeper.size(12));
            due(0, keeper.size(11));
            due("a/b", Checks.text(keeper, 1));
        }
    }

    private static void insertIntoFull() {
        SpeechKeeper keeper = Checks.of("base " + Checks.lines(20) + ";one " + Checks.lines(19) + ";");
        due(0, keeper.size(11));
        due(-1, keeper.insert(1, 20, Checks.type(keeper, "x")));
        due(0, keeper.size(12));
        due(0, keeper.size(11));
        due(20, keeper.insert(0, 19, Checks.type(keeper, "x")));
        due(1, keeper.size(11));
        Checks.type(keeper, "?");
        refuses(ILLEGAL, () -> keeper.insert(0, 20, 1));
        refuses(ABSENT, () -> keeper.insert(0, 21, 2));
    }

    private static void replace() {
        CHECKS.begin("promise 21");
        SpeechKeeper keeper = Checks.of("base a b c/d;");
        due(3, keeper.replace(0, 0, Checks.type(keeper, "x y")));
        due(2, keeper.replace(0, 0, Checks.type(keeper, "z")));
        due(1, keeper.replace(1, 1, Checks.type(keeper, "a b c d e f g h")));
        due("z/d", Checks.text(keeper, 1));
        due("a b c/a b c d e f g h", Checks.text(keeper, 2));
        due(0, keeper.size(12));
        due(3, keeper.size(11));
        Checks.type(keeper, "x");
        refuses(ABSENT, () -> keeper.replace(2, 0, 1));
        refuses(ABSENT, () -> keeper.replace(0, 2, 99));
        refuses(ABSENT, () -> keeper.replace(0, -1, 1));
        refuses(ILLEGAL, () -> keeper.replace(0, 0, 0));
        refuses(ILLEGAL, () -> keeper.replace(0, 0, 21));
        due(20, keeper.size(12));
        due(3, keeper.size(11));
    }

    private static void delete() {
        CHECKS.begin("promise 22");
        SpeechKeeper keeper = Checks.of("base a/b/c;");
        due(2, keeper.delete(0, 1));
        due("a/c", Checks.text(keeper, 1));
        due(1, keeper.delete(0, 1));
        due(0, keeper.delete(0, 0));
        due("a/b/c", Checks.text(keeper, 2));
        due(2, keeper.delete(1, 0));
        due("b/c", Checks.text(keeper, 2));
        due(4, keeper.size(11));
        refuses(ABSENT, () -> keeper.delete(0, 0));
        refuses(ABSENT, () -> keeper.delete(1, 2));
        refuses(ABSENT, () -> keeper.delete(1, -1));
        refuses(ABSENT, () -> keeper.delete(2, 0));
        refuses(ABSENT, () -> keeper.delete(-1, 0));
        due(4, keeper.size(11));
    }

    private static void deleteWord() {
        CHECKS.begin("promise 23");
        SpeechKeeper keeper = Checks.of("base a b c/d/e f g h i j k l;");
        due(3, keeper.deleteWord(0, 0, 1));
        due(3, keeper.deleteWord(0, 2, 7));
        due(3, keeper.deleteWord(0, 2, 0));
        due("a c/d/f g h i j k", Checks.text(keeper, 1));
        due(2, keeper.deleteWord(0, 1, 0));
        due("a c/f g h i j k", Checks.text(keeper, 1));
        due("a b c/d/e f g h i j k l", Checks.text(keeper, 2));
        due(4, keeper.size(11));
        refuses(ABSENT, () -> keeper.deleteWord(0, 0, 2));
        refuses(ABSENT, () -> keeper.deleteWord(0, 0, -1));
        refuses(ABSENT, () -> keeper.deleteWord(0, 2, 0));
        refuses(ABSENT, () -> keeper.deleteWord(0, -1, 0));
        refuses(ABSENT, () -> keeper.deleteWord(2, 0, 0));
        due(4, keeper.size(11));
    }

    private static void move() {
        CHECKS.begin("promise 24");
        SpeechKeeper keeper = Checks.of("base a/b/c/d;");
        due(2, keeper.move(0, 0, 2));
        due("b/c/a/d", Checks.text(keeper, 1));
        due(2, keeper.move(0, 3, 0));
        due("d/b/c/a", Checks.text(keeper, 1));
        due(0, keeper.move(1, 2, 2));
        due("a/b/c/d", Checks.text(keeper, 2));
        due(3, keeper.size(11));
        refuses(ABSENT, () -> keeper.move(0, 4, 0));
        refuses(ABSENT, () -> keeper.move(0, -1, 0));
        refuses(ABSENT, () -> keeper.move(0, 0, 4));
        refuses(ABSENT, () -> keeper.move(0, 0, -1));
        refuses(ABSENT, () -> keeper.move(2, 0, 0));
        due(3, keeper.size(11));
    }

    private static void takeBack() {
        CHECKS.begin("promise 25");
        SpeechKeeper keeper = Checks.of("base a/b/c/d/e;one x/y/b/d/e/z;two a/c/e;");
        due(3, keeper.size(5));
        due(2, keeper.takeBack(0, 1));
        due("x/y/b/c/d/e/z", Checks.text(keeper, 1));
        due(1, keeper.takeBack(0, 0));
        due("a/b/c/d/e/z", Checks.text(keeper, 1));
        due(0, keeper.takeBack(0, 0));
        due("a/b/c/d/e", Checks.text(keeper, 1));
        due(1, keeper.takeBack(1, 1));
        due("a/c/d/e", Checks.text(keeper, 2));
        due(4, keeper.size(11));
        refuses(ABSENT, () -> keeper.takeBack(0, 0));
        refuses(ABSENT, () -> keeper.takeBack(1, -1));
        refuses(ABSENT, () -> keeper.takeBack(2, 0));
        due(4, keeper.size(11));
        // refused: 20 lines and one more
        SpeechKeeper full = Checks.of("base " + Checks.lines(10) + ";one b/c/d/e/f/g/h/i/j/" + Checks.lines(11, 'p')
            + ";");
        due(-1, full.takeBack(0, 0));
        due(0, full.size(11));
        SpeechKeeper room = Checks.of("base " + Checks.lines(10) + ";one b/c/d/e/f/g/h/i/j/" + Checks.lines(10, 'p')
            + ";");
        due(1, room.takeBack(0, 0));
        due(20, room.size(1));
        due(1, full.takeBack(0, 1));
        due(0, full.takeBack(0, 0));
    }

    private static void decide() {
        CHECKS.begin("promise 26");
        SpeechKeeper keeper = Checks.of(CLASH);
        due("a/b/c/d/e", Checks.text(keeper, 3));
        due(0, keeper.decide(0, 1));
        due("a/x/c/d/e", Checks.text(keeper, 3));
        due(1, keeper.decide(0, 2));
        due("a/y/z/c/d/e", Checks.text(keeper, 3));
        due(2, keeper.decide(0, 3));
        due("a/x/y/z/c/d/e", Checks.text(keeper, 3));
        due(3, keeper.decide(0, 4));
        due("a/b/c/d/e", Checks.text(keeper, 3));
        due(0, keeper.size(9));
        due(4, keeper.decide(0, 0));
        due(1, keeper.size(9));
        due(0, keeper.decide(0, 0));
        due(6, keeper.size(11));
        due(-1, keeper.decide(1, 1));
        due(-1, keeper.decide(1, 0));
        due(6, keeper.size(11));
        refuses(ABSENT, () -> keeper.decide(2, 1));
        refuses(ABSENT, () -> keeper.decide(-1, 9));
        refuses(ILLEGAL, () -> keeper.decide(0, 5));
        refuses(ILLEGAL, () -> keeper.decide(0, -1));
        refuses(ILLEGAL, () -> keeper.decide(1, 5));
        decideWithinTwenty();
    }

    private static void decideWithinTwenty() {
        String rest = Checks.lines(17, 'b');
        SpeechKeeper keeper = Checks.of("base a/" + rest + ";one x/w/" + rest + ";two p/q/" + rest + ";");
        due(-1, keeper.decide(0, 3));
        due(0, keeper.size(11));
        due(0, keeper.decide(0, 1));
        due(19, keeper.size(3));
        SpeechKeeper twenty = Checks.of("base a/" + rest + ";one x/w/" + rest + ";two p/" + rest + ";");
        due(0, twenty.decide(0, 3));
        due(20, twenty.size(3));
        // a clash whose BASE lines are too many cannot be opened again
        String more = "/z/" + Checks.lines(8, 'p') + ";";
        SpeechKeeper many = Checks.of("base " + Checks.lines(15) + "/z;one x" + more + "two y/z;");
        due(24, many.size(3));
        due(0, many.decide(0, 1));
        due(10, many.size(3));
        due(-1, many.decide(0, 0));
        due(-1, many.decide(0, 4));
        due(1, many.size(11));
        due(1, many.decide(0, 3));
        due(11, many.size(3));
    }

    private static void openedDecisions() {
        CHECKS.begin("decisions open again");
        String[] names = {"insert", "replace", "delete", "deleteWord", "move", "takeBack", "discard", "adopt"};
        for (String name : names) {
            SpeechKeeper keeper = Checks.of("base a/b/c/d/d;one a/x/c/d/d/e;two a/y/c/d/d;");
            due(0, keeper.decide(0, 2));
            switch (name) {
                case "insert" -> keeper.insert(0, 6, Checks.type(keeper, "f"));
                case "replace" -> keeper.replace(1, 1, Checks.type(keeper, "y"));
                case "delete" -> keeper.delete(0, 5);
                case "deleteWord" -> keeper.deleteWord(0, 5, 0);
                case "move" -> keeper.move(0, 3, 4);
                case "takeBack" -> keeper.takeBack(0, 1);
                case "discard" -> keeper.discard(1);
                default -> keeper.adopt(1);
            }
            due(2, keeper.size(11));
            due(0, keeper.size(7) == 0 ? 0 : keeper.block(0, 5));
            due(1, keeper.undo());
            due(2, keeper.block(0, 5));
        }
        // a refused call leaves them
        SpeechKeeper full = Checks.of("base a/" + Checks.lines(19, 'b') + ";one x/" + Checks.lines(19, 'b') + ";two y/"
            + Checks.lines(19, 'b') + ";");
        due(0, full.decide(0, 1));
        due(-1, full.insert(0, 0, Checks.type(full, "z")));
        due(1, full.block(0, 5));
    }

    private static void join() {
        CHECKS.begin("promise 27");
        SpeechKeeper keeper = Checks.of(CLASH);
        due(-1, keeper.join());
        due(0, keeper.size(11));
        due(0, keeper.decide(0, 2));
        due(6, keeper.join());
        for (int text = 0; text <= 3; text++) {
            due("a/y/z/c/d/e", Checks.text(keeper, text));
        }
        due("0/2/2/0/0/3", Checks.authors(keeper, false));
        due(1, keeper.size(4));
        due(0, keeper.size(7));
        due(2, keeper.size(11));
        due(6, keeper.join());
        due(2, keeper.size(4));
        due("0/2/2/0/0/3", Checks.authors(keeper, false));
        due(0, new SpeechKeeper().join());
        // refused: more than 20 lines
        SpeechKeeper large = Checks.of("base " + Checks.lines(11) + ";one " + Checks.lines(11) + "/"
            + Checks.lines(9) + ";two z/" + Checks.lines(11) + ";");
        due(21, large.size(3));
        due(-1, large.join());
        due(0, large.size(4));
        due(0, large.size(11));
        due(11, large.delete(1, 0));
        due(20, large.join());
    }

    private static void discard() {
        CHECKS.begin("promise 28");
        SpeechKeeper keeper = Checks.of(CLASH);
        due(2, keeper.discard(1));
        due("a/b/c/d", Checks.text(keeper, 2));
        due("a/x/c/d/e", Checks.text(keeper, 1));
        due(0, keeper.discard(1));
        due(2, keeper.discard(0));
        due("a/b/c/d", Checks.text(keeper, 1));
        due(3, keeper.size(11));
        refuses(ABSENT, () -> keeper.discard(2));
        refuses(ABSENT, () -> keeper.discard(-1));
    }

    private static void adopt() {
        CHECKS.begin("promise 29");
        SpeechKeeper keeper = Checks.of("base a/b/c;one a/c/x;two b/c;");
        due(1, keeper.adopt(0));
        due("b/c", Checks.text(keeper, 1));
        due("b/c", Checks.text(keeper, 2));
        due("2 0 1 0 0 0 2", Checks.block(keeper, 0));
        due(0, keeper.undo());
        due(2, keeper.adopt(1));
        due("a/c/x", Checks.text(keeper, 2));
        due(2, keeper.adopt(1));
        due(2, keeper.size(11));
        refuses(ABSENT, () -> keeper.adopt(2));
        refuses(ABSENT, () -> keeper.adopt(-1));
    }

    private static void report() {
        CHECKS.begin("promise 30");
        SpeechKeeper keeper = Checks.of("base the old/man;one the young old/man;two the old/man/sea;");
        due("the old\nman\n", Checks.report(keeper, 0));
        due("the young old\nman\n", Checks.report(keeper, 1));
        due("the old\nman\nsea\n", Checks.report(keeper, 2));
        due("the young1 old\nman\nsea2\n", Checks.report(keeper, 3));
        due(3, keeper.join());
        due("the young1 old\nman\nsea2\n", Checks.report(keeper, 0));
        due("the young old\nman\nsea\n", Checks.report(keeper, 1));
        due(2, keeper.delete(0, 0));
        due(1, keeper.adopt(1));
        due("man\nsea2\n", Checks.report(keeper, 3));
        due(3, keeper.size(11));
        due("x3\n", Checks.report(Checks.of("base;one x;two x;"), 3));
        due("", Checks.report(Checks.of("base;"), 0));
        refuses(ILLEGAL, () -> keeper.report(-1));
        refuses(ILLEGAL, () -> keeper.report(4));
        due((int) 'm', keeper.reportByte(0));
    }

    private static void reportByte() {
        CHECKS.begin("promise 31");
        SpeechKeeper keeper = Checks.of("base a/b;one a/b/c;");
        due(4, keeper.report(0));
        due(3, keeper.insert(1, 0, Checks.type(keeper, "z")));
        due((int) 'a', keeper.reportByte(0));
        due(10, keeper.reportByte(1));
        due(10, keeper.reportByte(3));
        due(-1, keeper.reportByte(4));
        due(-1, keeper.reportByte(-1));
        due(-1, keeper.reportByte(Integer.MAX_VALUE));
        due(-1, keeper.reportByte(Integer.MIN_VALUE));
        due(0, keeper.undo());
        due(1, keeper.parse(Checks.type(keeper, "base q;")));
        due((int) 'b', keeper.reportByte(2));
        due(2, keeper.report(0));
        due((int) 'q', keeper.reportByte(0));
        due(-1, keeper.reportByte(2));
    }

    private static void undo() {
        CHECKS.begin("promise 32");
        SpeechKeeper keeper = Checks.of(CLASH);
        long[] sums = new long[10];
        for (int call = 0; call < 10; call++) {
            sums[call] = keeper.checksum();
            doRecorded(keeper, call);
            due(Math.min(call + 1, 8), keeper.size(11));
        }
        for (int call = 9; call >= 2; call--) {
            due(call - 2, keeper.undo());
            due(sums[call], keeper.checksum());
        }
        due(-1, keeper.undo());
        due(sums[2], keeper.checksum());
        // a call after undo is the latest one; the buffer stays as it is
        due(6, keeper.delete(0, 0));
        Checks.type(keeper, "x");
        due(0, keeper.undo());
        due(20, keeper.size(12));
        due(sums[2], keeper.checksum());
        notRecorded();
    }

    private static void doRecorded(SpeechKeeper keeper, int call) {
        switch (call) {
            case 0 -> due(0, keeper.decide(0, 3));
            case 1 -> due(7, keeper.join());
            case 2 -> due(1, keeper.replace(0, 0, Checks.type(keeper, "q")));
            case 3 -> due(8, keeper.insert(1, 0, Checks.type(keeper, "r")));
            case 4 -> due(7, keeper.delete(1, 1));
            case 5 -> due(0, keeper.decide(0, 1));
            case 6 -> due(0, keeper.takeBack(0, 0));
            case 7 -> due(1, keeper.adopt(0));
            case 8 -> due(1, keeper.discard(1));
            default -> due(6, keeper.deleteWord(0, 0, 0));
        }
    }

    private static void notRecorded() {
        SpeechKeeper keeper = Checks.of(CLASH);
        due(-1, keeper.join());
        due(-1, keeper.decide(1, 1));
        refuses(ABSENT, () -> keeper.delete(0, 9));
        due(10, keeper.report(1));
        due(false, keeper.saveSnapshot(0));
        due(false, keeper.wouldClash(0, 0));
        due(0, keeper.size(11));
        due(-1, keeper.undo());
        due("a/x/c/d/e", Checks.text(keeper, 1));
    }

    private static void saveSnapshot() {
        CHECKS.begin("promise 33");
        SpeechKeeper keeper = Checks.of(CLASH);
        due(false, keeper.saveSnapshot(1));
        due(true, keeper.saveSnapshot(1));
        due(false, keeper.saveSnapshot(0));
        due(4, keeper.delete(0, 0));
        due(true, keeper.saveSnapshot(0));
        due(1, keeper.size(11));
        due(0, keeper.restoreSnapshot(1));
        due("a/x/c/d/e", Checks.text(keeper, 1));
        due(0, keeper.restoreSnapshot(0));
        due("x/c/d/e", Checks.text(keeper, 1));
        refuses(ILLEGAL, () -> keeper.saveSnapshot(-1));
        refuses(ILLEGAL, () -> keeper.saveSnapshot(2));
    }

    private static void restoreSnapshot() {
        CHECKS.begin("promise 34");
        SpeechKeeper keeper = Checks.of(CLASH);
        refuses(NoSuchElementException.class, () -> keeper.restoreSnapshot(1));
        due(0, keeper.decide(0, 3));
        due(7, keeper.join());
        due(6, keeper.delete(0, 6));
        due(1, keeper.replace(0, 0, Checks.type(keeper, "q")));
        due(1, keeper.replace(1, 0, Checks.type(keeper, "r")));
        due(0, keeper.decide(0, 2));
        long before = keeper.checksum();
        due(false, keeper.saveSnapshot(0));
        due(2, keeper.decide(0, 1));
        due(6, keeper.join());
        due(12, keeper.report(1));
        Checks.type(keeper, "x");
        for (int times = 0; times < 2; times++) {
            due(true, before != keeper.checksum());
            due(1, keeper.restoreSnapshot(0));
            due(before, keeper.checksum());
            due("0/1/2/2/0/0/3", Checks.authors(keeper, false));
            due(2, keeper.block(0, 5));
            due(0, keeper.size(11));
            due(-1, keeper.undo());
            due(20, keeper.size(12));
            due(6, keeper.delete(1, 0));
            due(1, keeper.size(11));
        }
        due(10, keeper.reportByte(11));
        refuses(ILLEGAL, () -> keeper.restoreSnapshot(2));
        refuses(ILLEGAL, () -> keeper.restoreSnapshot(-1));
        refuses(NoSuchElementException.class, () -> keeper.restoreSnapshot(1));
        due(1, keeper.size(11));
    }

    private static void checksum() {
        CHECKS.begin("promise 35");
        due(0L, new SpeechKeeper().checksum());
        // the numbers of a small keeper, one by one
        SpeechKeeper keeper = Checks.of("base a b;one a bc;two a b/z;");
        int[] numbers = {
            1, 1, 2, 2, 0, 1, 1, 2, 0, 0, 0,
            2, 1, 0, 2, 0,
            2, 1, 2, 3,
            2, 1, 2, 1, 26,
            2, 1, 0, 2, 3, 1, 1, 26, 2,
            0, 0, 1, 1, 1, 0, 1,
            1, 1, 1, 0, 1, 0, 1};
        long sum = 0;
        for (int number : numbers) {
            sum = 31 * sum + number;
        }
        due(sum, keeper.checksum());
        due(sum, keeper.checksum());
        due(false, keeper.saveSnapshot(0));
        Checks.type(keeper, "x");
        due(sum, keeper.checksum());
        due(0, keeper.delete(0, 0));
        due(true, sum != keeper.checksum());
    }
}
