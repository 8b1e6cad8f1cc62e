import java.util.ArrayDeque;
import java.util.ArrayList;
import java.util.Arrays;
import java.util.Collections;
import java.util.Comparator;
import java.util.Deque;
import java.util.List;
import java.util.NoSuchElementException;

/**
 * The document once more, as slowly and plainly as its words say it and without any thought of SpeechKeeper's
 * own ways, so that random runs can be held against it.
 */
final class Model {
    static final int NONE = -1;

    /** A word of a text: its letters and its author. */
    record Word(String letters, int author) { }

    /** FROM, TO, START and END of a change, and its writer. */
    record Change(int writer, int from, int to, int start, int end) {
        boolean meets(Change other) {
            if (writer == other.writer) {
                return false;
            }
            for (int line = from; line < to; line++) {
                if (line >= other.from && line < other.to) {
                    return true;
                }
            }
            return from == to && from > other.from && from < other.to
                    || other.from == other.to && other.from > from && other.from < to
                    || from == to && other.from == other.to && from == other.from;
        }
    }

    /** A block: its changes, its lines of the BASE, its kind. */
    static final class Block {
        final List<Change> changes = new ArrayList<>();
        int first;
        int behind;
        int kind;
        final List<List<List<Word>>> sides = new ArrayList<>();
    }

    static final class State {
        List<List<Word>> base = new ArrayList<>();
        final List<List<List<Word>>> drafts = new ArrayList<>(List.of(new ArrayList<>(), new ArrayList<>()));
        int[] decisions = new int[100];
        int round;

        State copy() {
            State copy = new State();
            copy.base = copyOf(base);
            copy.drafts.set(0, copyOf(drafts.get(0)));
            copy.drafts.set(1, copyOf(drafts.get(1)));
            copy.decisions = decisions.clone();
            copy.round = round;
            return copy;
        }
    }

    private State now = new State();
    private final StringBuilder buffer = new StringBuilder();
    private String report = "";
    private final Deque<State> past = new ArrayDeque<>();
    private final State[] slots = new State[2];

    static List<List<Word>> copyOf(List<List<Word>> text) {
        List<List<Word>> copy = new ArrayList<>();
        for (List<Word> line : text) {
            copy.add(new ArrayList<>(line));
        }
        return copy;
    }

    // ---- rows laid side by side

    static List<String> lettersOf(List<Word> line) {
        List<String> letters = new ArrayList<>();
        for (Word word : line) {
            letters.add(word.letters());
        }
        return letters;
    }

    static List<List<String>> linesOf(List<List<Word>> text) {
        List<List<String>> lines = new ArrayList<>();
        for (List<Word> line : text) {
            lines.add(lettersOf(line));
        }
        return lines;
    }

    static <T> List<int[]> pairsOf(List<T> one, List<T> two) {
        int[][] longest = new int[one.size() + 2][two.size() + 2];
        for (int i = one.size() - 1; i >= 0; i--) {
            for (int j = two.size() - 1; j >= 0; j--) {
                int taken = one.get(i).equals(two.get(j)) ? 1 + longest[i + 1][j + 1] : 0;
                longest[i][j] = Math.max(taken, Math.max(longest[i + 1][j], longest[i][j + 1]));
            }
        }
        List<int[]> pairs = new ArrayList<>();
        int i = 0;
        int j = 0;
        while (i < one.size() && j < two.size()) {
            if (one.get(i).equals(two.get(j))) {
                pairs.add(new int[] {i++, j++});
            } else if (longest[i + 1][j] < longest[i][j + 1]) {
                j++;
            } else {
                i++;
            }
        }
        return pairs;
    }

    // ---- changes and blocks

    private List<Change> changes(State state, int writer) {
        List<List<Word>> draft = state.drafts.get(writer);
        List<int[]> pairs = new ArrayList<>(pairsOf(linesOf(state.base), linesOf(draft)));
        pairs.add(new int[] {state.base.size(), draft.size()});
        List<Change> found = new ArrayList<>();
        int from = 0;
        int start = 0;
        for (int[] pair : pairs) {
            if (pair[0] > from || pair[1] > start) {
                found.add(new Change(writer, from, pair[0], start, pair[1]));
            }
            from = pair[0] + 1;
            start = pair[1] + 1;
        }
        return found;
    }

    private List<Block> blocks(State state) {
        List<Change> all = new ArrayList<>(changes(state, 0));
        all.addAll(changes(state, 1));
        int[] group = new int[all.size()];
        for (int i = 0; i < group.length; i++) {
            group[i] = i;
        }
        for (int i = 0; i < group.length; i++) {
            for (int j = 0; j < group.length; j++) {
                if (all.get(i).meets(all.get(j))) {
                    int old = group[j];
                    for (int k = 0; k < group.length; k++) {
                        group[k] = group[k] == old ? group[i] : group[k];
                    }
                }
            }
        }
        List<Block> found = new ArrayList<>();
        for (int g = 0; g < group.length; g++) {
            Block block = new Block();
            block.first = 99;
            for (int i = 0; i < group.length; i++) {
                if (group[i] == g) {
                    block.changes.add(all.get(i));
                    block.first = Math.min(block.first, all.get(i).from());
                    block.behind = Math.max(block.behind, all.get(i).to());
                }
            }
            if (!block.changes.isEmpty()) {
                found.add(block);
            }
        }
        found.sort(Comparator.<Block>comparingInt(b -> b.first).thenComparingInt(b -> b.behind));
        for (Block block : found) {
            finish(state, block);
        }
        return found;
    }

    private void finish(State state, Block block) {
        block.sides.add(side(state, block, 0));
        block.sides.add(side(state, block, 1));
        boolean hasZero = false;
        boolean hasOne = false;
        for (Change change : block.changes) {
            hasZero |= change.writer() == 0;
            hasOne |= change.writer() == 1;
        }
        boolean isEqual = linesOf(block.sides.get(0)).equals(linesOf(block.sides.get(1)));
        block.kind = !hasOne ? 0 : !hasZero ? 1 : isEqual ? 2 : 3;
    }

    private List<List<Word>> side(State state, Block block, int writer) {
        List<List<Word>> side = new ArrayList<>();
        int line = block.first;
        for (Change change : block.changes) {
            if (change.writer() == writer) {
                side.addAll(state.base.subList(line, change.from()));
                side.addAll(state.drafts.get(writer).subList(change.start(), change.end()));
                line = change.to();
            }
        }
        side.addAll(state.base.subList(line, block.behind));
        return copyOf(side);
    }

    private List<List<Word>> placed(State state, Block block, int decision) {
        List<List<Word>> base = state.base.subList(block.first, block.behind);
        List<List<Word>> placed = new ArrayList<>();
        if (block.kind == 3 && (decision == 0 || decision == 4)) {
            placed.addAll(base);
        }
        if (block.kind == 0 || block.kind == 3 && (decision == 1 || decision == 3)) {
            placed.addAll(authored(base, block.sides.get(0), 1));
        }
        if (block.kind == 1 || block.kind == 3 && (decision == 2 || decision == 3)) {
            placed.addAll(authored(base, block.sides.get(1), 2));
        }
        if (block.kind == 2) {
            placed.addAll(authored(base, block.sides.get(1), 3));
        }
        return placed;
    }

    private List<List<Word>> authored(List<List<Word>> base, List<List<Word>> side, int author) {
        List<Word> old = new ArrayList<>();
        base.forEach(old::addAll);
        List<Word> row = new ArrayList<>();
        side.forEach(row::addAll);
        int[] authors = new int[row.size()];
        Arrays.fill(authors, author);
        for (int[] pair : pairsOf(lettersOf(old), lettersOf(row))) {
            authors[pair[1]] = old.get(pair[0]).author();
        }
        List<List<Word>> made = new ArrayList<>();
        int next = 0;
        for (List<Word> line : side) {
            List<Word> copy = new ArrayList<>();
            for (Word word : line) {
                copy.add(new Word(word.letters(), authors[next++]));
            }
            made.add(copy);
        }
        return made;
    }

    private List<List<Word>> joint(State state, int[] decisions) {
        List<List<Word>> joint = new ArrayList<>();
        int line = 0;
        List<Block> blocks = blocks(state);
        for (int b = 0; b < blocks.size(); b++) {
            joint.addAll(state.base.subList(line, blocks.get(b).first));
            joint.addAll(placed(state, blocks.get(b), decisions[b]));
            line = blocks.get(b).behind;
        }
        joint.addAll(state.base.subList(line, state.base.size()));
        return joint;
    }

    private List<List<Word>> text(int text) {
        return text == 0 ? now.base : text == 3 ? joint(now, now.decisions) : now.drafts.get(text - 1);
    }

    // ---- arguments

    private static void allow(boolean isAllowed) {
        if (!isAllowed) {
            throw new IllegalArgumentException();
        }
    }

    private static void exist(boolean isThere) {
        if (!isThere) {
            throw new IndexOutOfBoundsException();
        }
    }

    private static void exist(int number, int bound) {
        exist(number >= 0 && number < bound);
    }

    // ---- the face

    int append(int... fours) {
        if (buffer.length() + 20 > 700) {
            return NONE;
        }
        for (int four : fours) {
            buffer.append((char) (four >>> 24 & 255)).append((char) (four >>> 16 & 255));
            buffer.append((char) (four >>> 8 & 255)).append((char) (four & 255));
        }
        return buffer.length();
    }

    private int error;

    int parse(int bytes) {
        allow(bytes >= 0 && bytes <= buffer.length());
        String setup = buffer.substring(0, bytes);
        buffer.setLength(0);
        error = 0;
        State parsed = parsed(setup);
        if (parsed == null) {
            return -2 - error;
        }
        now = parsed;
        past.clear();
        slots[0] = null;
        slots[1] = null;
        return now.base.size();
    }

    /** An automaton over the tokens; null with the error set if there is one. */
    private State parsed(String setup) {
        State state = new State();
        List<List<List<Word>>> told = new ArrayList<>(Arrays.asList(null, null, null));
        int section = -1;
        String awaits = "base";
        int at = 0;
        while (true) {
            while (at < setup.length() && (setup.charAt(at) == ' ' || setup.charAt(at) == '\n')) {
                at++;
            }
            if (at == setup.length()) {
                break;
            }
            int end = at;
            while (end < setup.length() && setup.charAt(end) >= 'a' && setup.charAt(end) <= 'z') {
                end++;
            }
            String token = setup.substring(at, Math.max(end, at + 1));
            int code = 0;
            if (end == at) {
                if (token.equals(";") && (awaits.equals("lines") || awaits.equals("more"))) {
                    awaits = "section";
                } else if (token.equals("/") && awaits.equals("more")) {
                    awaits = "line";
                } else {
                    code = 1;
                }
            } else if (awaits.equals("base") || awaits.equals("section")) {
                int wanted = List.of("base", "one", "two").indexOf(token);
                if (wanted > section && (wanted == 0) == awaits.equals("base")) {
                    section = wanted;
                    told.set(section, new ArrayList<>());
                    awaits = "lines";
                } else {
                    code = 1;
                }
            } else {
                List<List<Word>> text = told.get(section);
                boolean isNewLine = !awaits.equals("more");
                if (token.length() > 8) {
                    code = 2;
                } else if (!isNewLine && text.get(text.size() - 1).size() == 8) {
                    code = 3;
                } else if (isNewLine && text.size() == 20) {
                    code = 4;
                } else {
                    if (isNewLine) {
                        text.add(new ArrayList<>());
                    }
                    text.get(text.size() - 1).add(new Word(token, 0));
                    awaits = "more";
                }
            }
            if (code != 0) {
                error = 8 * at + code;
                return null;
            }
            at += token.length();
        }
        if (!awaits.equals("section")) {
            error = 8 * setup.length() + 1;
            return null;
        }
        state.base = told.get(0);
        for (int writer = 0; writer < 2; writer++) {
            List<List<Word>> draft = told.get(writer + 1);
            state.drafts.set(writer, draft == null ? copyOf(state.base) : draft);
        }
        return state;
    }

    int size(int what) {
        allow(what >= 0 && what <= 12);
        int[] kinds = new int[4];
        int open = 0;
        List<Block> blocks = blocks(now);
        for (int b = 0; b < blocks.size(); b++) {
            kinds[blocks.get(b).kind]++;
            open += blocks.get(b).kind == 3 && now.decisions[b] == 0 ? 1 : 0;
        }
        return switch (what) {
            case 4 -> now.round;
            case 5 -> changes(now, 0).size();
            case 6 -> changes(now, 1).size();
            case 7 -> blocks.size();
            case 8 -> kinds[3];
            case 9 -> open;
            case 10 -> kinds[2];
            case 11 -> past.size();
            case 12 -> buffer.length();
            default -> text(what).size();
        };
    }

    int line(int text, int line, int what) {
        allow(text >= 0 && text <= 3 && what >= 0 && what <= 1);
        exist(line, text(text).size());
        List<Word> told = text(text).get(line);
        return what == 0 ? told.size() : String.join("", lettersOf(told)).length();
    }

    int letter(int text, int line, int word, int index) {
        allow(text >= 0 && text <= 3);
        exist(line, text(text).size());
        exist(word, text(text).get(line).size());
        String letters = text(text).get(line).get(word).letters();
        return index >= 0 && index < letters.length() ? letters.charAt(index) - 'a' + 1 : 0;
    }

    int author(boolean isJoint, int line, int word) {
        List<List<Word>> text = text(isJoint ? 3 : 0);
        exist(line, text.size());
        exist(word, text.get(line).size());
        return text.get(line).get(word).author();
    }

    int change(int writer, int change, int what) {
        exist(writer, 2);
        List<Change> changes = changes(now, writer);
        exist(change, changes.size());
        allow(what >= 0 && what <= 4);
        Change told = changes.get(change);
        List<Block> blocks = blocks(now);
        int number = 0;
        while (!blocks.get(number).changes.contains(told)) {
            number++;
        }
        return new int[] {told.from(), told.to(), told.start(), told.end(), number}[what];
    }

    boolean meet(int zero, int one) {
        exist(zero, changes(now, 0).size());
        exist(one, changes(now, 1).size());
        return changes(now, 0).get(zero).meets(changes(now, 1).get(one));
    }

    int block(int block, int what) {
        List<Block> blocks = blocks(now);
        exist(block, blocks.size());
        allow(what >= 0 && what <= 6);
        Block told = blocks.get(block);
        return new int[] {told.kind, told.first, told.behind, told.sides.get(0).size(), told.sides.get(1).size(),
            told.kind == 3 ? now.decisions[block] : 0, told.changes.size()}[what];
    }

    int common(int text, int line, int other, int otherLine) {
        allow(text >= 0 && text <= 3 && other >= 0 && other <= 3);
        allow((line == NONE) == (otherLine == NONE));
        if (line == NONE) {
            return pairsOf(linesOf(text(text)), linesOf(text(other))).size();
        }
        exist(line, text(text).size());
        exist(otherLine, text(other).size());
        return pairsOf(lettersOf(text(text).get(line)), lettersOf(text(other).get(otherLine))).size();
    }

    int occurrences(int text, int bytes) {
        allow(text >= 0 && text <= 3 && bytes >= 1 && bytes <= 8 && bytes <= buffer.length());
        String word = buffer.substring(0, bytes);
        buffer.setLength(0);
        if (!word.matches("[a-z]+")) {
            return NONE;
        }
        int count = 0;
        for (List<Word> line : text(text)) {
            count += Collections.frequency(lettersOf(line), word);
        }
        return count;
    }

    private static int words(List<List<Word>> text) {
        int count = 0;
        for (List<Word> line : text) {
            count += line.size();
        }
        return count;
    }

    float share(int author) {
        allow(author >= 0 && author <= 3);
        int count = 0;
        for (List<Word> line : text(3)) {
            for (Word word : line) {
                count += word.author() == author ? 1 : 0;
            }
        }
        return words(text(3)) == 0 ? 0.0f : (float) count / (float) words(text(3));
    }

    double meanWords(int text) {
        allow(text >= 0 && text <= 3);
        return text(text).isEmpty() ? 0.0 : (double) words(text(text)) / (double) text(text).size();
    }

    int safeLines(int writer) {
        exist(writer, 2);
        int sum = 0;
        for (int line = 0; line < now.base.size(); line++) {
            boolean isSafe = true;
            for (Change change : changes(now, 1 - writer)) {
                isSafe &= line < change.from() || line >= change.to();
            }
            sum += isSafe ? (int) Math.round(Math.pow(2, line)) : 0;
        }
        return sum;
    }

    private int clashes(State state) {
        int count = 0;
        for (Block block : blocks(state)) {
            count += block.kind == 3 ? 1 : 0;
        }
        return count;
    }

    boolean wouldClash(int writer, int line) {
        exist(writer, 2);
        exist(line, now.drafts.get(writer).size());
        State shorter = now.copy();
        shorter.drafts.get(writer).remove(line);
        return clashes(shorter) > clashes(now);
    }

    int fewestBack() {
        List<Change[]> edges = new ArrayList<>();
        for (Block block : blocks(now)) {
            for (Change one : block.changes) {
                for (Change two : block.changes) {
                    if (block.kind != 2 && one.writer() == 0 && one.meets(two)) {
                        edges.add(new Change[] {one, two});
                    }
                }
            }
        }
        return fewestOf(edges);
    }

    private int fewestOf(List<Change[]> edges) {
        if (edges.isEmpty()) {
            return 0;
        }
        int fewest = 99;
        for (Change gone : edges.get(0)) {
            List<Change[]> left = new ArrayList<>(edges);
            left.removeIf(edge -> edge[0].equals(gone) || edge[1].equals(gone));
            fewest = Math.min(fewest, 1 + fewestOf(left));
        }
        return fewest;
    }

    int fewestWords() {
        return decided(0, new int[100], false);
    }

    int mostWords() {
        return decided(0, new int[100], true);
    }

    /** Tries all decisions of the clashes from a block on. */
    private int decided(int block, int[] decisions, boolean isMost) {
        List<Block> blocks = blocks(now);
        if (block == blocks.size()) {
            List<List<Word>> joint = joint(now, decisions);
            return isMost && joint.size() > 20 ? NONE : words(joint);
        }
        if (blocks.get(block).kind != 3) {
            return decided(block + 1, decisions, isMost);
        }
        int best = isMost ? NONE : 9999;
        for (int decision = 1; decision <= 4; decision++) {
            decisions[block] = decision;
            int words = decided(block + 1, decisions, isMost);
            best = isMost ? Math.max(best, words) : Math.min(best, words);
        }
        return best;
    }

    private List<Word> typed(int bytes) {
        allow(bytes >= 1 && bytes <= buffer.length());
        String line = buffer.substring(0, bytes);
        allow(line.matches(" *[a-z]{1,8}( +[a-z]{1,8}){0,7} *"));
        buffer.setLength(0);
        List<Word> words = new ArrayList<>();
        for (String word : line.trim().split(" +")) {
            words.add(new Word(word, 0));
        }
        return words;
    }

    private void record() {
        past.addLast(now.copy());
        if (past.size() > 8) {
            past.removeFirst();
        }
    }

    private void edit() {
        record();
        now.decisions = new int[100];
    }

    int insert(int writer, int line, int bytes) {
        exist(writer, 2);
        List<List<Word>> draft = now.drafts.get(writer);
        exist(line, draft.size() + 1);
        List<Word> typed = typed(bytes);
        if (draft.size() == 20) {
            return NONE;
        }
        edit();
        draft.add(line, typed);
        return draft.size();
    }

    int replace(int writer, int line, int bytes) {
        exist(writer, 2);
        List<List<Word>> draft = now.drafts.get(writer);
        exist(line, draft.size());
        List<Word> typed = typed(bytes);
        edit();
        return draft.set(line, typed).size();
    }

    int delete(int writer, int line) {
        exist(writer, 2);
        List<List<Word>> draft = now.drafts.get(writer);
        exist(line, draft.size());
        edit();
        draft.remove(line);
        return draft.size();
    }

    int deleteWord(int writer, int line, int word) {
        exist(writer, 2);
        List<List<Word>> draft = now.drafts.get(writer);
        exist(line, draft.size());
        exist(word, draft.get(line).size());
        edit();
        draft.get(line).remove(word);
        draft.removeIf(List::isEmpty);
        return draft.size();
    }

    int move(int writer, int line, int to) {
        exist(writer, 2);
        List<List<Word>> draft = now.drafts.get(writer);
        exist(line, draft.size());
        exist(to, draft.size());
        edit();
        draft.add(to, draft.remove(line));
        return changes(now, writer).size();
    }

    int takeBack(int writer, int change) {
        exist(writer, 2);
        List<Change> changes = changes(now, writer);
        exist(change, changes.size());
        Change gone = changes.get(change);
        List<List<Word>> draft = copyOf(now.drafts.get(writer));
        draft.subList(gone.start(), gone.end()).clear();
        draft.addAll(gone.start(), copyOf(now.base.subList(gone.from(), gone.to())));
        if (draft.size() > 20) {
            return NONE;
        }
        edit();
        now.drafts.set(writer, draft);
        return changes(now, writer).size();
    }

    int decide(int block, int decision) {
        List<Block> blocks = blocks(now);
        exist(block, blocks.size());
        allow(decision >= 0 && decision <= 4);
        int[] decisions = now.decisions.clone();
        decisions[block] = decision;
        if (blocks.get(block).kind != 3 || joint(now, decisions).size() > 20) {
            return NONE;
        }
        record();
        int previous = now.decisions[block];
        now.decisions = decisions;
        return previous;
    }

    int join() {
        List<List<Word>> joint = text(3);
        if (size(9) > 0 || joint.size() > 20) {
            return NONE;
        }
        edit();
        now.base = copyOf(joint);
        now.drafts.set(0, copyOf(joint));
        now.drafts.set(1, copyOf(joint));
        now.round++;
        return joint.size();
    }

    int discard(int writer) {
        exist(writer, 2);
        int had = changes(now, writer).size();
        edit();
        now.drafts.set(writer, copyOf(now.base));
        return had;
    }

    int adopt(int writer) {
        exist(writer, 2);
        edit();
        now.drafts.set(writer, copyOf(now.drafts.get(1 - writer)));
        return changes(now, writer).size();
    }

    int report(int text) {
        allow(text >= 0 && text <= 3);
        StringBuilder made = new StringBuilder();
        for (List<Word> line : text(text)) {
            List<String> words = new ArrayList<>();
            for (Word word : line) {
                boolean isTold = text % 3 == 0 && word.author() > 0;
                words.add(isTold ? word.letters() + word.author() : word.letters());
            }
            made.append(String.join(" ", words)).append('\n');
        }
        report = made.toString();
        return report.length();
    }

    int reportByte(int index) {
        return index >= 0 && index < report.length() ? report.charAt(index) : NONE;
    }

    int undo() {
        if (past.isEmpty()) {
            return NONE;
        }
        now = past.removeLast();
        return past.size();
    }

    boolean saveSnapshot(int slot) {
        allow(slot >= 0 && slot <= 1);
        boolean wasThere = slots[slot] != null;
        slots[slot] = now.copy();
        return wasThere;
    }

    int restoreSnapshot(int slot) {
        allow(slot >= 0 && slot <= 1);
        if (slots[slot] == null) {
            throw new NoSuchElementException();
        }
        now = slots[slot].copy();
        past.clear();
        return now.round;
    }

    long checksum() {
        List<Integer> numbers = new ArrayList<>();
        for (int what = 0; what <= 10; what++) {
            numbers.add(size(what));
        }
        for (int text = 0; text <= 3; text++) {
            for (List<Word> line : text(text)) {
                numbers.add(line.size());
                for (Word word : line) {
                    word.letters().chars().forEach(letter -> numbers.add(letter - 'a' + 1));
                    if (text == 0 || text == 3) {
                        numbers.add(word.author());
                    }
                }
            }
        }
        for (int block = 0; block < size(7); block++) {
            for (int what = 0; what <= 6; what++) {
                numbers.add(block(block, what));
            }
        }
        long sum = 0;
        for (int number : numbers) {
            sum = 31 * sum + number;
        }
        return sum;
    }

    /** How many clashes there are, so that a caller can spare itself trying all their decisions. */
    int clashes() {
        return clashes(now);
    }
}
