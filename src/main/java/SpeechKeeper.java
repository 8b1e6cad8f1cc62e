import java.util.Arrays;
import java.util.NoSuchElementException;

/** Keeps a speech that two writers change at the same time. */
public final class SpeechKeeper {
    public static final int NONE = -1;

    private static final int MAX_BYTES = 700;
    private static final int APPENDED_BYTES = 20;
    private static final int MAX_LINES = 20;
    private static final int MAX_WORDS = 8;
    private static final int MAX_LETTERS = 8;
    private static final int TEXT_WORDS = MAX_LINES * MAX_WORDS;
    // Open clashes give lines of the BASE, other blocks lines of the drafts: no more than all three together.
    private static final int JOINT_LINES = 3 * MAX_LINES;
    // A pair stands between two changes, and there are no more pairs than lines.
    private static final int MAX_CHANGES = MAX_LINES + 1;
    private static final int MAX_BLOCKS = 2 * MAX_CHANGES;
    private static final int UNDOS = 8;
    private static final int SLOTS = 2;
    // A word is its letters, a line of the report its words, each with the author and a byte behind it.
    private static final int REPORT_BYTES = JOINT_LINES * MAX_WORDS * (MAX_LETTERS + 2);

    // The numbers by which texts are told.
    private static final int BASE = 0;
    private static final int JOINT = 3;

    // The numbers of a change, as change() tells them.
    private static final int FROM = 0;
    private static final int TO = 1;
    private static final int START = 2;
    private static final int END = 3;
    private static final int BLOCK = 4;
    private static final int CHANGE_NUMBERS = 5;

    // The numbers of a block, as block() tells them, and behind them those that it does not tell;
    // LINES, SIDE and OWN are those of the writer 0, with those of the writer 1 directly behind.
    private static final int KIND = 0;
    private static final int FIRST = 1;
    private static final int BEHIND = 2;
    private static final int LINES = 3;
    private static final int DECISION = 5;
    private static final int CHANGES = 6;
    private static final int SIDE = 7;
    private static final int OWN = 9;
    private static final int BLOCK_NUMBERS = 11;

    private static final int AGREED = 2;
    private static final int CLASH = 3;

    // What stands in place of a block; of a clash, these are its decisions.
    private static final int OPEN = 0;
    private static final int SIDE_ZERO = 1;
    private static final int SIDE_ONE = 2;
    private static final int BOTH_SIDES = 3;
    private static final int BASE_LINES = 4;

    private static final int BY_BOTH = 3;

    private final Reader reader;
    private final State now;
    private final State spare;
    private final Text typed;
    private final History history;
    private final Shelf slots;
    private final Laying laying;
    private final Merge merge;
    private final Merge trial;
    private final Joint joint;
    private final byte[] reported;
    private int reportedBytes;
    private boolean isMerged;
    private boolean isJoined;

    public SpeechKeeper() {
        reader = new Reader();
        now = new State();
        spare = new State();
        typed = new Text(1);
        history = new History();
        slots = new Shelf(SLOTS);
        laying = new Laying();
        merge = new Merge(laying);
        trial = new Merge(laying);
        joint = new Joint(now, merge, laying);
        reported = new byte[REPORT_BYTES];
    }

    // ---- texts

    public int append(int a, int b, int c, int d, int e) {
        if (!reader.hasRoom(APPENDED_BYTES)) {
            return NONE;
        }
        reader.addFour(a);
        reader.addFour(b);
        reader.addFour(c);
        reader.addFour(d);
        reader.addFour(e);
        return reader.length();
    }

    public int parse(int bytes) throws IllegalArgumentException {
        needWithin(bytes, 0, reader.length());
        int error = reader.readSetup(bytes, spare);
        reader.empty();
        if (error != NONE) {
            return -2 - error;
        }
        now.copyFrom(spare);
        history.forget();
        slots.clear();
        outdate();
        return now.base.lines();
    }

    public int size(int what) throws IllegalArgumentException {
        needWithin(what, 0, 12);
        return numberOf(what);
    }

    public int line(int text, int line, int what) throws IllegalArgumentException, IndexOutOfBoundsException {
        needText(text);
        needWithin(what, 0, 1);
        Text told = textOf(text);
        needBelow(line, told.lines());
        return what == 0 ? told.wordsOf(line) : told.lettersOf(line);
    }

    public int letter(int text, int line, int word, int index)
            throws IllegalArgumentException, IndexOutOfBoundsException {
        needText(text);
        Text told = textOf(text);
        needBelow(line, told.lines());
        needBelow(word, told.wordsOf(line));
        return letterOf(told.wordAt(line, word), index);
    }

    public int author(boolean isJoint, int line, int word) throws IndexOutOfBoundsException {
        Text told = textOf(isJoint ? JOINT : BASE);
        needBelow(line, told.lines());
        needBelow(word, told.wordsOf(line));
        return told.authorAt(line, word);
    }

    // ---- changes and blocks

    public int change(int writer, int change, int what) throws IndexOutOfBoundsException, IllegalArgumentException {
        needWriter(writer);
        Table changes = merged().changesOf(writer);
        needBelow(change, changes.rows());
        needWithin(what, 0, BLOCK);
        return changes.get(change, what);
    }

    public boolean meet(int zero, int one) throws IndexOutOfBoundsException {
        needBelow(zero, merged().zero.rows());
        needBelow(one, merged().one.rows());
        return merged().areMeeting(zero, one);
    }

    public int block(int block, int what) throws IndexOutOfBoundsException, IllegalArgumentException {
        needBelow(block, merged().blocks.rows());
        needWithin(what, 0, CHANGES);
        return numberOfBlock(block, what);
    }

    public int common(int text, int line, int other, int otherLine)
            throws IllegalArgumentException, IndexOutOfBoundsException {
        needText(text);
        needText(other);
        if ((line == NONE) != (otherLine == NONE)) {
            throw new IllegalArgumentException("one line is none and the other one is not");
        }
        Text first = textOf(text);
        Text second = textOf(other);
        if (line == NONE) {
            laying.takeLines(first, second);
        } else {
            needBelow(line, first.lines());
            needBelow(otherLine, second.lines());
            laying.clear();
            laying.addFirsts(first, line, line + 1);
            laying.addSeconds(second, otherLine, otherLine + 1);
        }
        laying.lay();
        return laying.pairs();
    }

    // ---- words

    public int occurrences(int text, int bytes) throws IllegalArgumentException {
        needText(text);
        needWithin(bytes, 1, Math.min(MAX_LETTERS, reader.length()));
        long word = reader.readWord(bytes);
        reader.empty();
        return word == 0 ? NONE : textOf(text).countOf(word);
    }

    public float share(int author) throws IllegalArgumentException {
        needWithin(author, 0, BY_BOTH);
        Text told = textOf(JOINT);
        int words = told.wordsIn(0, told.lines());
        return words == 0 ? 0.0f : (float) told.countBy(author) / (float) words;
    }

    public double meanWords(int text) throws IllegalArgumentException {
        needText(text);
        Text told = textOf(text);
        int lines = told.lines();
        return lines == 0 ? 0.0 : (double) told.wordsIn(0, lines) / (double) lines;
    }

    // ---- what would be: nothing changes

    public int safeLines(int writer) throws IndexOutOfBoundsException {
        needWriter(writer);
        Table others = merged().changesOf(1 - writer);
        int safe = (1 << now.base.lines()) - 1;
        for (int change = 0; change < others.rows(); change++) {
            for (int line = others.get(change, FROM); line < others.get(change, TO); line++) {
                safe &= ~(1 << line);
            }
        }
        return safe;
    }

    public boolean wouldClash(int writer, int line) throws IndexOutOfBoundsException {
        needWriter(writer);
        needBelow(line, now.draft(writer).lines());
        Text shorter = spare.draft(writer);
        shorter.copyFrom(now.draft(writer));
        shorter.removeLine(line);
        if (writer == 0) {
            trial.find(now.base, shorter, now.draftOne);
        } else {
            trial.find(now.base, now.draftZero, shorter);
        }
        return trial.blocksOf(CLASH) > merged().blocksOf(CLASH);
    }

    public int fewestBack() {
        return merged().leastBack();
    }

    public int fewestWords() {
        merged();
        return joint.leastWords();
    }

    public int mostWords() {
        merged();
        return joint.greatestWords();
    }

    // ---- changes

    public int insert(int writer, int line, int bytes) throws IndexOutOfBoundsException, IllegalArgumentException {
        needWriter(writer);
        Text draft = now.draft(writer);
        needBelow(line, draft.lines() + 1);
        readTyped(bytes);
        if (draft.isFull()) {
            return NONE;
        }
        recordEdit();
        draft.insertLine(line, typed, 0);
        return draft.lines();
    }

    public int replace(int writer, int line, int bytes) throws IndexOutOfBoundsException, IllegalArgumentException {
        needWriter(writer);
        Text draft = now.draft(writer);
        needBelow(line, draft.lines());
        readTyped(bytes);
        int words = draft.wordsOf(line);
        recordEdit();
        draft.setLine(line, typed, 0);
        return words;
    }

    public int delete(int writer, int line) throws IndexOutOfBoundsException {
        needWriter(writer);
        Text draft = now.draft(writer);
        needBelow(line, draft.lines());
        recordEdit();
        draft.removeLine(line);
        return draft.lines();
    }

    public int deleteWord(int writer, int line, int word) throws IndexOutOfBoundsException {
        needWriter(writer);
        Text draft = now.draft(writer);
        needBelow(line, draft.lines());
        needBelow(word, draft.wordsOf(line));
        recordEdit();
        draft.removeWord(line, word);
        if (draft.wordsOf(line) == 0) {
            draft.removeLine(line);
        }
        return draft.lines();
    }

    public int move(int writer, int line, int to) throws IndexOutOfBoundsException {
        needWriter(writer);
        Text draft = now.draft(writer);
        needBelow(line, draft.lines());
        needBelow(to, draft.lines());
        recordEdit();
        typed.clear();
        typed.addLines(draft, line, line + 1);
        draft.removeLine(line);
        draft.insertLine(to, typed, 0);
        return merged().changesOf(writer).rows();
    }

    public int takeBack(int writer, int change) throws IndexOutOfBoundsException {
        needWriter(writer);
        Table changes = merged().changesOf(writer);
        needBelow(change, changes.rows());
        Text draft = now.draft(writer);
        int from = changes.get(change, FROM);
        int to = changes.get(change, TO);
        int start = changes.get(change, START);
        int end = changes.get(change, END);
        if (draft.lines() - (end - start) + (to - from) > MAX_LINES) {
            return NONE;
        }
        recordEdit();
        for (int line = start; line < end; line++) {
            draft.removeLine(start);
        }
        for (int line = from; line < to; line++) {
            draft.insertLine(start + line - from, now.base, line);
        }
        return merged().changesOf(writer).rows();
    }

    public int decide(int block, int decision) throws IndexOutOfBoundsException, IllegalArgumentException {
        needBelow(block, merged().blocks.rows());
        needWithin(decision, OPEN, BASE_LINES);
        if (merge.blocks.get(block, KIND) != CLASH || joint.linesIf(block, decision) > MAX_LINES) {
            return NONE;
        }
        int previous = now.decisionOf(block);
        history.record(now);
        now.setDecision(block, decision);
        isJoined = false;
        return previous;
    }

    public int join() {
        Text told = textOf(JOINT);
        if (openClashes() > 0 || told.lines() > MAX_LINES) {
            return NONE;
        }
        recordEdit();
        now.base.copyFrom(told);
        now.draftZero.copyFrom(told);
        now.draftOne.copyFrom(told);
        now.round++;
        return now.base.lines();
    }

    public int discard(int writer) throws IndexOutOfBoundsException {
        needWriter(writer);
        int changes = merged().changesOf(writer).rows();
        recordEdit();
        now.draft(writer).copyFrom(now.base);
        return changes;
    }

    public int adopt(int writer) throws IndexOutOfBoundsException {
        needWriter(writer);
        recordEdit();
        now.draft(writer).copyFrom(now.draft(1 - writer));
        return merged().changesOf(writer).rows();
    }

    // ---- reports, undo, snapshots

    public int report(int text) throws IllegalArgumentException {
        needText(text);
        Text told = textOf(text);
        reportedBytes = 0;
        for (int line = 0; line < told.lines(); line++) {
            reportLine(told, line, hasAuthors(text));
        }
        return reportedBytes;
    }

    public int reportByte(int index) {
        return index >= 0 && index < reportedBytes ? reported[index] : NONE;
    }

    public int undo() {
        if (history.count() == 0) {
            return NONE;
        }
        history.bringBack(now);
        outdate();
        return history.count();
    }

    public boolean saveSnapshot(int slot) throws IllegalArgumentException {
        needWithin(slot, 0, SLOTS - 1);
        boolean wasFilled = slots.isFilled(slot);
        slots.put(slot, now);
        return wasFilled;
    }

    public int restoreSnapshot(int slot) throws IllegalArgumentException, NoSuchElementException {
        needWithin(slot, 0, SLOTS - 1);
        if (!slots.isFilled(slot)) {
            throw new NoSuchElementException("the slot is empty");
        }
        slots.bring(slot, now);
        history.forget();
        outdate();
        return now.round;
    }

    public long checksum() {
        long sum = 0;
        for (int what = 0; what <= 10; what++) {
            sum = 31 * sum + numberOf(what);
        }
        for (int text = BASE; text <= JOINT; text++) {
            sum = sumWithText(sum, textOf(text), hasAuthors(text));
        }
        for (int block = 0; block < merged().blocks.rows(); block++) {
            for (int what = KIND; what <= CHANGES; what++) {
                sum = 31 * sum + numberOfBlock(block, what);
            }
        }
        return sum;
    }

    // ---- what the arguments must be

    private static void needWithin(int number, int least, int most) {
        if (number < least || number > most) {
            throw new IllegalArgumentException("a number is out of range");
        }
    }

    private static void needText(int text) {
        needWithin(text, BASE, JOINT);
    }

    private static void needBelow(int number, int bound) {
        if (number < 0 || number >= bound) {
            throw new IndexOutOfBoundsException("there is no such one");
        }
    }

    private static void needWriter(int writer) {
        needBelow(writer, 2);
    }

    private void readTyped(int bytes) {
        needWithin(bytes, 1, reader.length());
        if (!reader.readLine(bytes, typed)) {
            throw new IllegalArgumentException("these bytes are not a line");
        }
        reader.empty();
    }

    // ---- what follows from the state

    private Merge merged() {
        if (!isMerged) {
            merge.find(now.base, now.draftZero, now.draftOne);
            isMerged = true;
        }
        return merge;
    }

    private Text textOf(int text) {
        if (text == BASE) {
            return now.base;
        }
        if (text != JOINT) {
            return now.draft(text - 1);
        }
        if (!isJoined) {
            merged();
            joint.build();
            isJoined = true;
        }
        return joint.text;
    }

    private void outdate() {
        isMerged = false;
        isJoined = false;
    }

    private void recordEdit() {
        history.record(now);
        now.openDecisions();
        outdate();
    }

    private static boolean hasAuthors(int text) {
        return text == BASE || text == JOINT;
    }

    private int numberOf(int what) {
        switch (what) {
            case 0:
            case 1:
            case 2:
            case 3:
                return textOf(what).lines();
            case 4:
                return now.round;
            case 5:
                return merged().zero.rows();
            case 6:
                return merged().one.rows();
            case 7:
                return merged().blocks.rows();
            case 8:
                return merged().blocksOf(CLASH);
            case 9:
                return openClashes();
            case 10:
                return merged().blocksOf(AGREED);
            case 11:
                return history.count();
            default:
                return reader.length();
        }
    }

    private int numberOfBlock(int block, int what) {
        return what == DECISION ? now.decisionOf(block) : merged().blocks.get(block, what);
    }

    private int openClashes() {
        Table blocks = merged().blocks;
        int count = 0;
        for (int block = 0; block < blocks.rows(); block++) {
            if (blocks.get(block, KIND) == CLASH && now.decisionOf(block) == OPEN) {
                count++;
            }
        }
        return count;
    }

    private static long sumWithText(long before, Text told, boolean isWithAuthors) {
        long sum = before;
        for (int line = 0; line < told.lines(); line++) {
            sum = 31 * sum + told.wordsOf(line);
            for (int word = 0; word < told.wordsOf(line); word++) {
                sum = sumWithWord(sum, told.wordAt(line, word));
                if (isWithAuthors) {
                    sum = 31 * sum + told.authorAt(line, word);
                }
            }
        }
        return sum;
    }

    private static long sumWithWord(long before, long word) {
        long sum = before;
        int letters = lettersIn(word);
        for (int index = 0; index < letters; index++) {
            sum = 31 * sum + letterOf(word, index);
        }
        return sum;
    }

    private void reportLine(Text told, int line, boolean isWithAuthors) {
        int words = told.wordsOf(line);
        for (int word = 0; word < words; word++) {
            reportWord(told.wordAt(line, word));
            if (isWithAuthors && told.authorAt(line, word) != 0) {
                addReported('0' + told.authorAt(line, word));
            }
            addReported(word + 1 < words ? ' ' : '\n');
        }
    }

    private void reportWord(long word) {
        int letters = lettersIn(word);
        for (int index = 0; index < letters; index++) {
            addReported('a' - 1 + letterOf(word, index));
        }
    }

    private void addReported(int sign) {
        if (reportedBytes < reported.length) {
            reported[reportedBytes] = (byte) sign;
            reportedBytes++;
        }
    }

    // ---- words: each letter is 5 bits, the first one lowest, so that equal words are equal numbers

    private static int letterOf(long word, int index) {
        return index >= 0 && index < MAX_LETTERS ? (int) (word >> (5 * index)) & 31 : 0;
    }

    private static long withLetter(long word, int index, int letter) {
        return index >= 0 && index < MAX_LETTERS ? word | (long) letter << (5 * index) : word;
    }

    private static int lettersIn(long word) {
        int letters = 0;
        while (letters < MAX_LETTERS && letterOf(word, letters) != 0) {
            letters++;
        }
        return letters;
    }

    /** Lines of words, each word with an author. */
    private static final class Text {
        private final long[] words;
        private final int[] authors;
        private final int[] counts;
        private int lines;

        Text(int capacity) {
            int most = Math.max(capacity, 1);
            words = new long[most * MAX_WORDS];
            authors = new int[most * MAX_WORDS];
            counts = new int[most];
        }

        int lines() {
            return lines;
        }

        boolean isFull() {
            return lines >= counts.length;
        }

        int wordsOf(int line) {
            return line >= 0 && line < lines ? counts[line] : 0;
        }

        long wordAt(int line, int word) {
            return word >= 0 && word < wordsOf(line) ? words[line * MAX_WORDS + word] : 0;
        }

        int authorAt(int line, int word) {
            return word >= 0 && word < wordsOf(line) ? authors[line * MAX_WORDS + word] : 0;
        }

        void setAuthor(int line, int word, int author) {
            if (word >= 0 && word < wordsOf(line)) {
                authors[line * MAX_WORDS + word] = author;
            }
        }

        int lettersOf(int line) {
            int letters = 0;
            for (int word = 0; word < wordsOf(line); word++) {
                letters += lettersIn(wordAt(line, word));
            }
            return letters;
        }

        int wordsIn(int from, int to) {
            int count = 0;
            for (int line = Math.max(from, 0); line < Math.min(to, lines); line++) {
                count += counts[line];
            }
            return count;
        }

        int countOf(long wanted) {
            int count = 0;
            for (int line = 0; line < lines; line++) {
                for (int word = 0; word < wordsOf(line); word++) {
                    if (wordAt(line, word) == wanted) {
                        count++;
                    }
                }
            }
            return count;
        }

        int countBy(int author) {
            int count = 0;
            for (int line = 0; line < lines; line++) {
                for (int word = 0; word < wordsOf(line); word++) {
                    if (authorAt(line, word) == author) {
                        count++;
                    }
                }
            }
            return count;
        }

        boolean isSameLine(int line, Text other, int otherLine) {
            if (line < 0 || line >= lines || otherLine < 0 || otherLine >= other.lines
                    || counts[line] != other.counts[otherLine]) {
                return false;
            }
            for (int word = 0; word < counts[line]; word++) {
                if (words[line * MAX_WORDS + word] != other.words[otherLine * MAX_WORDS + word]) {
                    return false;
                }
            }
            return true;
        }

        /** The first line that is equal to a line of another text, or NONE. */
        int lineLike(Text other, int otherLine) {
            for (int line = 0; line < lines; line++) {
                if (isSameLine(line, other, otherLine)) {
                    return line;
                }
            }
            return NONE;
        }

        void clear() {
            lines = 0;
        }

        void openLine() {
            if (lines < counts.length) {
                counts[lines] = 0;
                lines++;
            }
        }

        /** Adds a word, which has no author, to the last line. */
        void addWord(long word) {
            int line = lines - 1;
            if (line >= 0 && counts[line] < MAX_WORDS) {
                words[line * MAX_WORDS + counts[line]] = word;
                authors[line * MAX_WORDS + counts[line]] = 0;
                counts[line]++;
            }
        }

        void copyFrom(Text other) {
            lines = Math.min(other.lines, counts.length);
            System.arraycopy(other.words, 0, words, 0, lines * MAX_WORDS);
            System.arraycopy(other.authors, 0, authors, 0, lines * MAX_WORDS);
            System.arraycopy(other.counts, 0, counts, 0, lines);
        }

        void addLines(Text source, int from, int to) {
            for (int line = from; line < to && lines < counts.length; line++) {
                lines++;
                setLine(lines - 1, source, line);
            }
        }

        void setLine(int line, Text source, int sourceLine) {
            if (line >= 0 && line < lines && sourceLine >= 0 && sourceLine < source.lines) {
                int to = line * MAX_WORDS;
                int from = sourceLine * MAX_WORDS;
                System.arraycopy(source.words, from, words, to, MAX_WORDS);
                System.arraycopy(source.authors, from, authors, to, MAX_WORDS);
                counts[line] = source.counts[sourceLine];
            }
        }

        void insertLine(int line, Text source, int sourceLine) {
            if (line >= 0 && line <= lines && lines < counts.length) {
                shiftLines(line, line + 1);
                lines++;
                setLine(line, source, sourceLine);
            }
        }

        void removeLine(int line) {
            if (line >= 0 && line < lines) {
                shiftLines(line + 1, line);
                lines--;
            }
        }

        /** Shifts the lines from a place on to another place. */
        private void shiftLines(int from, int to) {
            int moved = lines - from;
            if (moved > 0 && from >= 0 && to >= 0 && to + moved <= counts.length) {
                System.arraycopy(words, from * MAX_WORDS, words, to * MAX_WORDS, moved * MAX_WORDS);
                System.arraycopy(authors, from * MAX_WORDS, authors, to * MAX_WORDS, moved * MAX_WORDS);
                System.arraycopy(counts, from, counts, to, moved);
            }
        }

        void removeWord(int line, int word) {
            if (word >= 0 && word < wordsOf(line)) {
                int at = line * MAX_WORDS + word;
                int behind = counts[line] - word - 1;
                System.arraycopy(words, at + 1, words, at, behind);
                System.arraycopy(authors, at + 1, authors, at, behind);
                counts[line]--;
            }
        }
    }

    /** All that undo and snapshots hold. */
    private static final class State {
        final Text base = new Text(MAX_LINES);
        final Text draftZero = new Text(MAX_LINES);
        final Text draftOne = new Text(MAX_LINES);
        private final int[] decisions = new int[MAX_BLOCKS];
        int round;

        Text draft(int writer) {
            return writer == 0 ? draftZero : draftOne;
        }

        int decisionOf(int block) {
            return block >= 0 && block < decisions.length ? decisions[block] : OPEN;
        }

        void setDecision(int block, int decision) {
            if (block >= 0 && block < decisions.length) {
                decisions[block] = decision;
            }
        }

        void openDecisions() {
            Arrays.fill(decisions, OPEN);
        }

        void copyFrom(State other) {
            base.copyFrom(other.base);
            draftZero.copyFrom(other.draftZero);
            draftOne.copyFrom(other.draftOne);
            System.arraycopy(other.decisions, 0, decisions, 0, MAX_BLOCKS);
            round = other.round;
        }
    }

    /** Places for states. */
    private static final class Shelf {
        private final State[] states;
        private final boolean[] filled;

        Shelf(int places) {
            int most = Math.max(places, 1);
            states = new State[most];
            filled = new boolean[most];
            for (int place = 0; place < most; place++) {
                states[place] = new State();
            }
        }

        boolean isFilled(int place) {
            return place >= 0 && place < filled.length && filled[place];
        }

        void put(int place, State state) {
            if (place >= 0 && place < states.length && states[place] != null) {
                states[place].copyFrom(state);
                filled[place] = true;
            }
        }

        void bring(int place, State into) {
            if (isFilled(place) && states[place] != null) {
                into.copyFrom(states[place]);
            }
        }

        void clear() {
            for (int place = 0; place < filled.length; place++) {
                filled[place] = false;
            }
        }
    }

    /** The states before the latest recorded calls, in a ring. */
    private static final class History {
        private final Shelf ring = new Shelf(UNDOS);
        private int next;
        private int count;

        int count() {
            return count;
        }

        void record(State now) {
            ring.put(next, now);
            next = (next + 1) % UNDOS;
            count = Math.min(count + 1, UNDOS);
        }

        void bringBack(State into) {
            if (count > 0) {
                next = (next + UNDOS - 1) % UNDOS;
                ring.bring(next, into);
                count--;
            }
        }

        void forget() {
            count = 0;
        }
    }

    /** Rows of numbers, of which only those that are there are read and written. */
    private static final class Table {
        private final int width;
        private final int[] cells;
        private int rows;

        Table(int most, int numbers) {
            width = Math.max(numbers, 1);
            cells = new int[Math.max(most, 1) * width];
        }

        int rows() {
            return rows;
        }

        void clear() {
            rows = 0;
        }

        /** Adds a row of zeros and tells its number. */
        int addRow() {
            if ((rows + 1) * width <= cells.length) {
                for (int number = 0; number < width; number++) {
                    cells[rows * width + number] = 0;
                }
                rows++;
            }
            return rows - 1;
        }

        int get(int row, int number) {
            return row >= 0 && row < rows && number >= 0 && number < width ? cells[row * width + number] : 0;
        }

        void put(int row, int number, int value) {
            if (row >= 0 && row < rows && number >= 0 && number < width) {
                cells[row * width + number] = value;
            }
        }
    }

    /** Two rows of things laid side by side: lines or words, told by numbers that are equal if the things are. */
    private static final class Laying {
        private final long[] first = new long[TEXT_WORDS];
        private final long[] second = new long[TEXT_WORDS];
        private final int[] partners = new int[TEXT_WORDS];
        private final int[] longest = new int[TEXT_WORDS * TEXT_WORDS];
        private int firsts;
        private int seconds;
        private int pairs;

        void clear() {
            firsts = 0;
            seconds = 0;
            pairs = 0;
        }

        int pairs() {
            return pairs;
        }

        /** The place in the first row that a place in the second row is paired with, or NONE. */
        int partnerOf(int place) {
            return place >= 0 && place < seconds ? partners[place] : NONE;
        }

        private void addFirst(long thing) {
            if (firsts < first.length) {
                first[firsts] = thing;
                firsts++;
            }
        }

        private void addSecond(long thing) {
            if (seconds < second.length) {
                second[seconds] = thing;
                partners[seconds] = NONE;
                seconds++;
            }
        }

        /** Adds the words of lines to the first row. */
        void addFirsts(Text text, int from, int to) {
            for (int line = from; line < to; line++) {
                for (int word = 0; word < text.wordsOf(line); word++) {
                    addFirst(text.wordAt(line, word));
                }
            }
        }

        /** Adds the words of lines to the second row. */
        void addSeconds(Text text, int from, int to) {
            for (int line = from; line < to; line++) {
                for (int word = 0; word < text.wordsOf(line); word++) {
                    addSecond(text.wordAt(line, word));
                }
            }
        }

        /** Takes the lines of two texts, each told by the first line of the one text that is equal to it. */
        void takeLines(Text one, Text other) {
            clear();
            for (int line = 0; line < one.lines(); line++) {
                addFirst(one.lineLike(one, line));
            }
            for (int line = 0; line < other.lines(); line++) {
                addSecond(one.lineLike(other, line));
            }
        }

        void lay() {
            findLongest();
            int i = 0;
            int j = 0;
            while (i < firsts && j < seconds) {
                if (first[i] == second[j]) {
                    partners[j] = i;
                    pairs++;
                    i++;
                    j++;
                } else if (longestFrom(i + 1, j) >= longestFrom(i, j + 1)) {
                    i++;
                } else {
                    j++;
                }
            }
        }

        private void findLongest() {
            // Nothing is asked of the places before the first difference: there all things are pairs.
            int same = sameAtFront();
            for (int i = firsts - 1; i >= same; i--) {
                for (int j = seconds - 1; j >= same; j--) {
                    longest[i * TEXT_WORDS + j] = first[i] == second[j]
                            ? longestFrom(i + 1, j + 1) + 1
                            : Math.max(longestFrom(i + 1, j), longestFrom(i, j + 1));
                }
            }
        }

        private int sameAtFront() {
            int same = 0;
            while (same < firsts && same < seconds && first[same] == second[same]) {
                same++;
            }
            return same;
        }

        private int longestFrom(int i, int j) {
            return i >= 0 && i < firsts && j >= 0 && j < seconds ? longest[i * TEXT_WORDS + j] : 0;
        }
    }

    /** The changes of both writers and the blocks that they make. */
    private static final class Merge {
        final Table zero = new Table(MAX_CHANGES, CHANGE_NUMBERS);
        final Table one = new Table(MAX_CHANGES, CHANGE_NUMBERS);
        final Table blocks = new Table(MAX_BLOCKS, BLOCK_NUMBERS);
        private final Laying laying;

        Merge(Laying laying) {
            this.laying = laying;
        }

        Table changesOf(int writer) {
            return writer == 0 ? zero : one;
        }

        void find(Text base, Text draftZero, Text draftOne) {
            laying.takeLines(base, draftZero);
            laying.lay();
            findChanges(zero, base.lines(), draftZero.lines());
            laying.takeLines(base, draftOne);
            laying.lay();
            findChanges(one, base.lines(), draftOne.lines());
            findBlocks();
            findSides(0);
            findSides(1);
            for (int block = 0; block < blocks.rows(); block++) {
                blocks.put(block, KIND, kindOf(block, draftZero, draftOne));
            }
        }

        /** The changes are what is between the pairs, and before and behind them. */
        private void findChanges(Table changes, int baseLines, int draftLines) {
            changes.clear();
            int from = 0;
            int start = 0;
            for (int line = 0; line < draftLines; line++) {
                int partner = laying.partnerOf(line);
                if (partner != NONE) {
                    addChange(changes, from, partner, start, line);
                    from = partner + 1;
                    start = line + 1;
                }
            }
            addChange(changes, from, baseLines, start, draftLines);
        }

        private static void addChange(Table changes, int from, int to, int start, int end) {
            if (from == to && start == end) {
                return;
            }
            int row = changes.addRow();
            changes.put(row, FROM, from);
            changes.put(row, TO, to);
            changes.put(row, START, start);
            changes.put(row, END, end);
        }

        boolean areMeeting(int changeZero, int changeOne) {
            int from = zero.get(changeZero, FROM);
            int to = zero.get(changeZero, TO);
            int otherFrom = one.get(changeOne, FROM);
            int otherTo = one.get(changeOne, TO);
            if (from == to && otherFrom == otherTo) {
                return from == otherFrom;
            }
            if (from == to) {
                return from > otherFrom && from < otherTo;
            }
            if (otherFrom == otherTo) {
                return otherFrom > from && otherFrom < to;
            }
            return Math.max(from, otherFrom) < Math.min(to, otherTo);
        }

        /** Takes the changes of both writers by FROM, and by TO of several: so each block is made whole before the next. */
        private void findBlocks() {
            blocks.clear();
            int nextZero = 0;
            int nextOne = 0;
            while (nextZero < zero.rows() || nextOne < one.rows()) {
                if (isZeroNext(nextZero, nextOne)) {
                    addToBlock(0, nextZero);
                    nextZero++;
                } else {
                    addToBlock(1, nextOne);
                    nextOne++;
                }
            }
        }

        private boolean isZeroNext(int nextZero, int nextOne) {
            if (nextZero >= zero.rows() || nextOne >= one.rows()) {
                return nextZero < zero.rows();
            }
            int from = zero.get(nextZero, FROM);
            int otherFrom = one.get(nextOne, FROM);
            return from < otherFrom || from == otherFrom && zero.get(nextZero, TO) <= one.get(nextOne, TO);
        }

        private void addToBlock(int writer, int change) {
            int from = changesOf(writer).get(change, FROM);
            int to = changesOf(writer).get(change, TO);
            int block = blocks.rows() - 1;
            int first = blocks.get(block, FIRST);
            int behind = blocks.get(block, BEHIND);
            // Changes of one writer have a pair between them. So what begins inside a block, at a line of it
            // or with no line between two of them, is inside a change of the other writer, and meets it.
            boolean isPart = from < behind || first == behind && to == behind;
            if (block == NONE || !isPart) {
                block = blocks.addRow();
                blocks.put(block, FIRST, from);
                behind = to;
            }
            changesOf(writer).put(change, BLOCK, block);
            blocks.put(block, BEHIND, Math.max(behind, to));
            blocks.put(block, CHANGES, blocks.get(block, CHANGES) + 1);
            blocks.put(block, OWN + writer, blocks.get(block, OWN + writer) + 1);
        }

        /** The lines of the BASE beside the changes are in the draft too: each side is a row of lines of the draft. */
        private void findSides(int writer) {
            Table changes = changesOf(writer);
            int grown = 0;
            int change = 0;
            for (int block = 0; block < blocks.rows(); block++) {
                int before = grown;
                while (change < changes.rows() && changes.get(change, BLOCK) == block) {
                    grown += changes.get(change, END) - changes.get(change, START);
                    grown -= changes.get(change, TO) - changes.get(change, FROM);
                    change++;
                }
                int first = blocks.get(block, FIRST);
                blocks.put(block, SIDE + writer, first + before);
                blocks.put(block, LINES + writer, blocks.get(block, BEHIND) - first + grown - before);
            }
        }

        private int kindOf(int block, Text draftZero, Text draftOne) {
            if (blocks.get(block, OWN + 1) == 0) {
                return 0;
            }
            if (blocks.get(block, OWN) == 0) {
                return 1;
            }
            return hasEqualSides(block, draftZero, draftOne) ? AGREED : CLASH;
        }

        private boolean hasEqualSides(int block, Text draftZero, Text draftOne) {
            int lines = blocks.get(block, LINES);
            if (lines != blocks.get(block, LINES + 1)) {
                return false;
            }
            int sideZero = blocks.get(block, SIDE);
            int sideOne = blocks.get(block, SIDE + 1);
            for (int line = 0; line < lines; line++) {
                if (!draftZero.isSameLine(sideZero + line, draftOne, sideOne + line)) {
                    return false;
                }
            }
            return true;
        }

        int blocksOf(int kind) {
            int count = 0;
            for (int block = 0; block < blocks.rows(); block++) {
                if (blocks.get(block, KIND) == kind) {
                    count++;
                }
            }
            return count;
        }

        /**
         * As many changes must go as pairs that meet can be found with no change in two of them. Such pairs
         * do not cross (later changes of the one writer meet the same or later ones of the other), so each
         * change can take the first free one that it meets.
         */
        int leastBack() {
            int count = 0;
            int free = 0;
            for (int change = 0; change < zero.rows(); change++) {
                boolean isAgreed = blocks.get(zero.get(change, BLOCK), KIND) == AGREED;
                for (int other = free; other < one.rows() && !isAgreed; other++) {
                    if (areMeeting(change, other)) {
                        count++;
                        free = other + 1;
                        break;
                    }
                }
            }
            return count;
        }
    }

    /** The JOINT text, and what it can become. */
    private static final class Joint {
        final Text text = new Text(JOINT_LINES);
        private final State state;
        private final Merge merge;
        private final Laying laying;
        private final int[] baseAuthors = new int[TEXT_WORDS];
        private final int[] most = new int[MAX_LINES + 1];

        Joint(State state, Merge merge, Laying laying) {
            this.state = state;
            this.merge = merge;
            this.laying = laying;
        }

        void build() {
            text.clear();
            int line = 0;
            for (int block = 0; block < merge.blocks.rows(); block++) {
                int placed = placedFor(block, state.decisionOf(block));
                // Lines of the BASE that stand in place of a block are added with those behind it.
                text.addLines(state.base, line, merge.blocks.get(block, FIRST));
                line = merge.blocks.get(block, placed == BASE_LINES ? FIRST : BEHIND);
                if (placed == SIDE_ZERO || placed == BOTH_SIDES) {
                    addSide(block, 0);
                }
                if (placed == SIDE_ONE || placed == BOTH_SIDES) {
                    addSide(block, 1);
                }
            }
            text.addLines(state.base, line, state.base.lines());
        }

        /** What stands in place of a block if a clash is decided like this. */
        private int placedFor(int block, int decision) {
            switch (merge.blocks.get(block, KIND)) {
                case 1:
                    return SIDE_ONE;
                case CLASH:
                    return decision == OPEN ? BASE_LINES : decision;
                default:
                    return SIDE_ZERO;
            }
        }

        private void addSide(int block, int writer) {
            int start = text.lines();
            int from = merge.blocks.get(block, SIDE + writer);
            text.addLines(state.draft(writer), from, from + merge.blocks.get(block, LINES + writer));
            readBaseAuthors(block);
            laying.clear();
            laying.addFirsts(state.base, merge.blocks.get(block, FIRST), merge.blocks.get(block, BEHIND));
            laying.addSeconds(text, start, text.lines());
            laying.lay();
            writeAuthors(start, merge.blocks.get(block, KIND) == AGREED ? BY_BOTH : writer + 1);
        }

        private void readBaseAuthors(int block) {
            int place = 0;
            for (int line = merge.blocks.get(block, FIRST); line < merge.blocks.get(block, BEHIND); line++) {
                for (int word = 0; word < state.base.wordsOf(line) && place < baseAuthors.length; word++) {
                    baseAuthors[place] = state.base.authorAt(line, word);
                    place++;
                }
            }
        }

        private void writeAuthors(int start, int newAuthor) {
            int place = 0;
            for (int line = start; line < text.lines(); line++) {
                for (int word = 0; word < text.wordsOf(line); word++) {
                    int partner = laying.partnerOf(place);
                    boolean isOld = partner >= 0 && partner < baseAuthors.length;
                    text.setAuthor(line, word, isOld ? baseAuthors[partner] : newAuthor);
                    place++;
                }
            }
        }

        private int linesOf(int block, int placed) {
            Table blocks = merge.blocks;
            switch (placed) {
                case SIDE_ZERO:
                    return blocks.get(block, LINES);
                case SIDE_ONE:
                    return blocks.get(block, LINES + 1);
                case BOTH_SIDES:
                    return blocks.get(block, LINES) + blocks.get(block, LINES + 1);
                default:
                    return blocks.get(block, BEHIND) - blocks.get(block, FIRST);
            }
        }

        private int wordsOf(int block, int placed) {
            switch (placed) {
                case SIDE_ZERO:
                    return wordsOfSide(block, 0);
                case SIDE_ONE:
                    return wordsOfSide(block, 1);
                case BOTH_SIDES:
                    return wordsOfSide(block, 0) + wordsOfSide(block, 1);
                default:
                    return state.base.wordsIn(merge.blocks.get(block, FIRST), merge.blocks.get(block, BEHIND));
            }
        }

        private int wordsOfSide(int block, int writer) {
            int from = merge.blocks.get(block, SIDE + writer);
            return state.draft(writer).wordsIn(from, from + merge.blocks.get(block, LINES + writer));
        }

        /** The lines that the text would have with a decision of a clash. */
        int linesIf(int clash, int decision) {
            int lines = state.base.lines();
            for (int block = 0; block < merge.blocks.rows(); block++) {
                int placed = placedFor(block, block == clash ? decision : state.decisionOf(block));
                lines += linesOf(block, placed) - linesOf(block, BASE_LINES);
            }
            return lines;
        }

        private boolean isClash(int block) {
            return merge.blocks.get(block, KIND) == CLASH;
        }

        private int linesBesideClashes() {
            int lines = state.base.lines();
            for (int block = 0; block < merge.blocks.rows(); block++) {
                lines -= linesOf(block, BASE_LINES);
                lines += isClash(block) ? 0 : linesOf(block, placedFor(block, OPEN));
            }
            return lines;
        }

        private int wordsBesideClashes() {
            int words = state.base.wordsIn(0, state.base.lines());
            for (int block = 0; block < merge.blocks.rows(); block++) {
                words -= wordsOf(block, BASE_LINES);
                words += isClash(block) ? 0 : wordsOf(block, placedFor(block, OPEN));
            }
            return words;
        }

        int leastWords() {
            int words = wordsBesideClashes();
            for (int block = 0; block < merge.blocks.rows(); block++) {
                if (isClash(block)) {
                    int least = wordsOf(block, BASE_LINES);
                    least = Math.min(least, wordsOf(block, SIDE_ZERO));
                    words += Math.min(least, wordsOf(block, SIDE_ONE));
                }
            }
            return words;
        }

        int greatestWords() {
            int lines = linesBesideClashes();
            Arrays.fill(most, NONE);
            if (lines >= 0 && lines < most.length) {
                most[lines] = wordsBesideClashes();
            }
            for (int block = 0; block < merge.blocks.rows(); block++) {
                if (isClash(block)) {
                    addChoices(block);
                }
            }
            int greatest = NONE;
            for (int words : most) {
                greatest = Math.max(greatest, words);
            }
            return greatest;
        }

        /** Goes from many lines to few, so that what is read is still without this clash. */
        private void addChoices(int clash) {
            for (int lines = most.length - 1; lines >= 0; lines--) {
                int greatest = NONE;
                for (int placed = SIDE_ZERO; placed <= BASE_LINES; placed++) {
                    int before = lines - linesOf(clash, placed);
                    if (before >= 0 && before < most.length && most[before] != NONE) {
                        greatest = Math.max(greatest, most[before] + wordsOf(clash, placed));
                    }
                }
                most[lines] = greatest;
            }
        }
    }

    /** The input buffer, and what is read from it. */
    private static final class Reader {
        private static final int AT_END = 0;
        private static final int WORD = 1;
        private static final int SLASH = 2;
        private static final int SEMICOLON = 3;
        private static final int INVALID = 4;

        private static final int NOT_ALLOWED = 1;
        private static final int LONG_WORD = 2;
        private static final int LONG_LINE = 3;
        private static final int LONG_TEXT = 4;

        private final byte[] bytes = new byte[MAX_BYTES];
        private int length;
        private int limit;
        private int place;
        private int token;
        private int tokenAt;
        private long word;
        private int letters;

        int length() {
            return length;
        }

        void empty() {
            length = 0;
        }

        boolean hasRoom(int count) {
            return length + count <= bytes.length;
        }

        void addFour(int four) {
            for (int shift = 24; shift >= 0 && hasRoom(1); shift -= 8) {
                bytes[length] = (byte) (four >> shift);
                length++;
            }
        }

        private int byteAt(int index) {
            return index >= 0 && index < length ? bytes[index] : 0;
        }

        private boolean isLetter(int index) {
            return byteAt(index) >= 'a' && byteAt(index) <= 'z';
        }

        /** The word that the first bytes are; 0 if they are not all letters. */
        long readWord(int count) {
            long read = 0;
            for (int index = 0; index < count; index++) {
                if (!isLetter(index)) {
                    return 0;
                }
                read = withLetter(read, index, byteAt(index) - 'a' + 1);
            }
            return read;
        }

        /** Whether the first bytes are a line, which then stands in the text alone. */
        boolean readLine(int count, Text into) {
            for (int index = 0; index < count; index++) {
                if (!isLetter(index) && byteAt(index) != ' ') {
                    return false;
                }
            }
            begin(count);
            into.clear();
            nextToken();
            return readWords(into) == NONE && token == AT_END;
        }

        /** Returns NONE, or 8 * offset + code of the error. */
        int readSetup(int count, State into) {
            begin(count);
            into.round = 0;
            into.openDecisions();
            nextToken();
            int error = isKeyword("base") ? readLines(into.base) : errorOf(NOT_ALLOWED);
            into.draftZero.copyFrom(into.base);
            into.draftOne.copyFrom(into.base);
            if (error == NONE && isKeyword("one")) {
                error = readLines(into.draftZero);
            }
            if (error == NONE && isKeyword("two")) {
                error = readLines(into.draftOne);
            }
            return error == NONE && token != AT_END ? errorOf(NOT_ALLOWED) : error;
        }

        private void begin(int count) {
            limit = Math.min(count, length);
            place = 0;
        }

        private int errorOf(int code) {
            return 8 * tokenAt + code;
        }

        private boolean isKeyword(String keyword) {
            if (token != WORD || letters != keyword.length()) {
                return false;
            }
            for (int index = 0; index < keyword.length(); index++) {
                if (letterOf(word, index) != keyword.charAt(index) - 'a' + 1) {
                    return false;
                }
            }
            return true;
        }

        /** Reads lines and the semicolon behind them, from the token before them to the one after them. */
        private int readLines(Text into) {
            into.clear();
            nextToken();
            if (token == SEMICOLON) {
                nextToken();
                return NONE;
            }
            for (int line = 0; line <= MAX_LINES; line++) {
                int error = readWords(into);
                if (error != NONE) {
                    return error;
                }
                if (token != SLASH) {
                    break;
                }
                nextToken();
            }
            if (token != SEMICOLON) {
                return errorOf(NOT_ALLOWED);
            }
            nextToken();
            return NONE;
        }

        /** Reads a line, up to the token behind it. */
        private int readWords(Text into) {
            if (token != WORD) {
                return errorOf(NOT_ALLOWED);
            }
            for (int count = 0; count <= MAX_WORDS && token == WORD; count++) {
                if (letters > MAX_LETTERS) {
                    return errorOf(LONG_WORD);
                }
                if (count == MAX_WORDS) {
                    return errorOf(LONG_LINE);
                }
                if (count == 0) {
                    if (into.isFull()) {
                        return errorOf(LONG_TEXT);
                    }
                    into.openLine();
                }
                into.addWord(word);
                nextToken();
            }
            return NONE;
        }

        private void nextToken() {
            while (place < limit && (byteAt(place) == ' ' || byteAt(place) == '\n')) {
                place++;
            }
            tokenAt = place;
            if (place >= limit) {
                token = AT_END;
            } else if (isLetter(place)) {
                token = WORD;
                takeLetters();
            } else {
                token = byteAt(place) == '/' ? SLASH : byteAt(place) == ';' ? SEMICOLON : INVALID;
                place++;
            }
        }

        private void takeLetters() {
            word = 0;
            letters = 0;
            while (place < limit && isLetter(place)) {
                word = withLetter(word, letters, byteAt(place) - 'a' + 1);
                letters++;
                place++;
            }
        }
    }
}
