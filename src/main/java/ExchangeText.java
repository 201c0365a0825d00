/**
 * A model as a text of numbered lines, with a schema of kinds.
 *
 * All rows are made with the object and used again, so that no call makes an object: what a call
 * may refuse is first built in a spare row and copied only when nothing is wrong with it.
 */
public final class ExchangeText {
    /** There is none. */
    public static final int NONE = -1;
    /** It would be too long. */
    public static final int LONG = -2;
    /** No place: the way comes to a ring. */
    public static final long RING = 1000000000000L;

    private static final int MOST_CHARACTERS = 1200;
    private static final int MOST_KINDS = 12;
    private static final int MOST_LINES = 40;
    /** Sorts of a kind, and arguments of a line. */
    private static final int MOST_ARGUMENTS = 8;
    private static final int MOST_ITEMS = 6;
    private static final int MOST_LETTERS = 8;
    private static final int MOST_IN_TEXT = 20;
    private static final int MOST_DIGITS = 9;
    private static final int MOST_LINE_DIGITS = 3;
    private static final int GREATEST_NUMBER = 999999999;
    private static final int GREATEST_LINE = 999;
    private static final int AXES = 3;

    private static final int NUMBER = 0;
    private static final int TEXT = 1;
    private static final int REFERENCE = 2;
    private static final int NUMBERS = 3;
    private static final int REFERENCES = 4;
    private static final int WORD = 5;
    private static final int NOTHING = 6;
    /** The letter of each sort stands where the sort's number says. */
    private static final String SORT_LETTERS = "ITRLME";

    private static final int FITS = 0;
    private static final int NO_KIND = 1;
    private static final int OTHER_SIZE = 2;
    private static final int OTHER_SORT = 3;

    private static final int SAME = 0;
    private static final int GONE = 1;
    private static final int ADDED = 2;
    private static final int CHANGED = 3;

    private static final char BLANK = ' ';
    private static final char LAST_SIGN = '~';
    private static final char QUOTE = '\'';
    /** Stands behind the end of a text: no text holds it. */
    private static final char NO_SIGN = '\0';
    /** No number of a text is as small as this. */
    private static final int NO_NUMBER = -2000000000;

    private final Page text;
    private final Page spareText;
    private final Kinds kinds;
    private final Kinds spareKinds;
    private final Model model;
    private final Model spareModel;
    private final Model kept;
    private final Graph graph;
    private final Leads byNumber;
    private final SchemaReader schemaReader;
    private final ModelReader modelReader;

    public ExchangeText() {
        text = new Page();
        spareText = new Page();
        kinds = new Kinds();
        spareKinds = new Kinds();
        model = new Model();
        spareModel = new Model();
        kept = new Model();
        graph = new Graph(model);
        byNumber = new Leads(0);
        Words words = new Words(text);
        schemaReader = new SchemaReader(words, spareKinds);
        modelReader = new ModelReader(words, spareModel);
    }

    public int say(long word) throws IllegalArgumentException, IllegalStateException {
        int more = 0;
        for (int shift = 56; shift >= 0; shift -= 8) {
            int sign = byteOf(word, shift);
            if (sign != 0 && (sign < BLANK || sign > LAST_SIGN)) {
                throw new IllegalArgumentException("a byte is no character of a text");
            }
            more += sign == 0 ? 0 : 1;
        }
        if (text.length + more > MOST_CHARACTERS) {
            throw new IllegalStateException("the text would be too long");
        }
        text.addBytes(word);
        return text.length;
    }

    public int trim(int n) throws IllegalArgumentException {
        if (n < 0 || n > text.length) {
            throw new IllegalArgumentException("there are not so many characters");
        }
        text.length -= n;
        return text.length;
    }

    public int charAt(int i) throws IllegalArgumentException {
        if (i < 0 || i >= text.length) {
            throw new IllegalArgumentException("there is no such character");
        }
        return text.signAt(i);
    }

    public int schema() {
        if (!schemaReader.readAll()) {
            return -1 - schemaReader.words.standsAt();
        }
        kinds.copyFrom(spareKinds);
        text.clear();
        return kinds.total;
    }

    public int read() {
        if (!modelReader.readAll()) {
            return -1 - modelReader.words.standsAt();
        }
        int lost = spareModel.firstLost();
        if (lost != NONE) {
            return -10000 - lost;
        }
        model.copyFrom(spareModel);
        graph.learn();
        text.clear();
        return model.lines;
    }

    public int write() {
        spareText.clear();
        for (int p = 0; p < model.lines; p++) {
            Writer.writeLine(model, model.rowAt(p), spareText);
        }
        if (spareText.full) {
            return LONG;
        }
        text.copyFrom(spareText);
        return text.length;
    }

    public int keep() {
        kept.copyFrom(model);
        return kept.lines;
    }

    public int line(int place) throws IllegalArgumentException {
        refuseUnless(place >= 0);
        int row = model.rowAt(place);
        return row == NONE ? NONE : model.number[row];
    }

    public int told(int line, int what) throws IllegalArgumentException {
        int row = rowOrRefuse(line);
        refuseUnless(what >= 0 && what <= 3);
        if (what == 0) {
            return kinds.find(model.name[row]);
        }
        if (what == 1) {
            return model.size[row];
        }
        return what == 2 ? model.referencesOf(row) : graph.depth[row];
    }

    public int argument(int line, int k, int what) throws IllegalArgumentException {
        int spot = spotOrRefuse(line, k);
        refuseUnless(what == 0 || what == 1);
        return what == 0 ? model.sort[spot] : model.value[spot];
    }

    public int item(int line, int k, int i) throws IllegalArgumentException {
        int spot = spotOrRefuse(line, k);
        refuseUnless(i >= 0 && i < model.itemsOf(spot));
        return model.itemAt(spot, i);
    }

    public int set(int line, int k, int v) throws IllegalArgumentException {
        int spot = spotOrRefuse(line, k);
        refuseUnless(v >= -GREATEST_NUMBER && v <= GREATEST_NUMBER);
        refuseUnless(model.sort[spot] == NUMBER);
        int before = model.value[spot];
        model.value[spot] = v;
        graph.forgetGroups();
        return before;
    }

    public int wrong(int k, int what) throws IllegalArgumentException {
        refuseUnless(k >= 0 && what >= 0 && what <= 2);
        int left = k;
        for (int p = 0; p < model.lines; p++) {
            int row = model.rowAt(p);
            int why = whyWrong(row);
            if (why != FITS && left == 0) {
                if (what == 0) {
                    return model.number[row];
                }
                return what == 1 ? why : misfitOf(row, why);
            }
            left -= why != FITS ? 1 : 0;
        }
        return NONE;
    }

    public int from(int line, int k) throws IllegalArgumentException {
        int row = rowOrRefuse(line);
        refuseUnless(k >= 0);
        int left = k;
        for (int p = 0; p < model.lines; p++) {
            int other = model.rowAt(p);
            if (graph.refersTo(other, row)) {
                if (left == 0) {
                    return model.number[other];
                }
                left--;
            }
        }
        return NONE;
    }

    public int ring(int k) throws IllegalArgumentException {
        refuseUnless(k >= 0);
        int left = k;
        for (int p = 0; p < model.lines; p++) {
            int row = model.rowAt(p);
            if (graph.comesBack(row)) {
                if (left == 0) {
                    return model.number[row];
                }
                left--;
            }
        }
        return NONE;
    }

    public long place(int line, int axis) throws IllegalArgumentException {
        int row = rowOrRefuse(line);
        refuseUnless(axis >= 0 && axis < AXES);
        refuseUnless(model.isPlaced(row));
        long sum = 0;
        // A way without a ring meets each line once at most.
        for (int step = 0; step < model.lines; step++) {
            sum += model.value[row * MOST_ARGUMENTS + axis];
            int next = model.nextPlaced(row);
            if (next == NONE) {
                return sum;
            }
            row = next;
        }
        return RING;
    }

    public boolean alike(int line, int other) throws IllegalArgumentException {
        rowOrRefuse(line);
        rowOrRefuse(other);
        graph.group();
        return graph.leads.of(line) == graph.leads.of(other);
    }

    public int join() {
        graph.group();
        int before = model.lines;
        model.follow(graph.leads);
        graph.learn();
        return before - model.lines;
    }

    public int differs(int k, int what) throws IllegalArgumentException {
        refuseUnless(k >= 0 && (what == 0 || what == 1));
        int left = k;
        int p = 0;
        int q = 0;
        for (int n = 0; n < 2 * MOST_LINES && (p < model.lines || q < kept.lines); n++) {
            int row = model.rowAt(p);
            int old = kept.rowAt(q);
            int how = howDiffers(row, old);
            if (how != SAME && left == 0) {
                if (what == 1) {
                    return how;
                }
                return how == GONE ? kept.number[old] : model.number[row];
            }
            left -= how != SAME ? 1 : 0;
            p += how != GONE ? 1 : 0;
            q += how != ADDED ? 1 : 0;
        }
        return NONE;
    }

    public int count(int what) throws IllegalArgumentException {
        refuseUnless(what >= 0 && what <= 3);
        if (what == 0) {
            return text.length;
        }
        if (what == 1) {
            return kinds.total;
        }
        return what == 2 ? model.lines : kept.lines;
    }

    private static void refuseUnless(boolean fine) {
        if (!fine) {
            throw new IllegalArgumentException("out of its bounds, or there is none such");
        }
    }

    private int rowOrRefuse(int line) {
        int row = model.rowOf(line);
        refuseUnless(row != NONE);
        return row;
    }

    private int spotOrRefuse(int line, int k) {
        int row = rowOrRefuse(line);
        refuseUnless(k >= 0 && k < model.size[row]);
        return row * MOST_ARGUMENTS + k;
    }

    private int whyWrong(int row) {
        int kind = kinds.find(model.name[row]);
        if (kind == NONE) {
            return NO_KIND;
        }
        if (kinds.size[kind] != model.size[row]) {
            return OTHER_SIZE;
        }
        return misfitOf(row, OTHER_SORT) == NONE ? FITS : OTHER_SORT;
    }

    /** The first argument that is not of its sort; the other reasons name none. */
    private int misfitOf(int row, int why) {
        int kind = kinds.find(model.name[row]);
        if (why != OTHER_SORT || kind == NONE) {
            return NONE;
        }
        for (int k = 0; k < model.size[row]; k++) {
            int spot = row * MOST_ARGUMENTS + k;
            if (!kinds.takesSort(kind, k, model.sort[spot], model.value[spot])) {
                return k;
            }
        }
        return NONE;
    }

    /** How the first lines left of both models differ, NONE standing for a model that has no more. */
    private int howDiffers(int row, int old) {
        if (row == NONE) {
            return GONE;
        }
        if (old == NONE || model.number[row] < kept.number[old]) {
            return ADDED;
        }
        if (model.number[row] > kept.number[old]) {
            return GONE;
        }
        return model.sameLine(row, kept, old, byNumber) ? SAME : CHANGED;
    }

    private static int byteOf(long word, int shift) {
        return (int) (word >>> shift) & 255;
    }

    private static boolean isDigit(char sign) {
        return sign >= '0' && sign <= '9';
    }

    private static boolean isLetter(char sign) {
        return sign >= 'A' && sign <= 'Z';
    }

    /** Characters one behind another, as many as a text may have. */
    private static final class Page {
        final char[] signs = new char[MOST_CHARACTERS];
        int length;
        /** Something did not find room any more. */
        boolean full;

        void clear() {
            length = 0;
            full = false;
        }

        void add(char sign) {
            if (length >= 0 && length < signs.length) {
                signs[length] = sign;
                length++;
            } else {
                full = true;
            }
        }

        /** Names are held as said words are: a byte a letter, the highest first. */
        void addBytes(long bytes) {
            for (int shift = 56; shift >= 0; shift -= 8) {
                int sign = byteOf(bytes, shift);
                if (sign != 0) {
                    add((char) sign);
                }
            }
        }

        char signAt(int place) {
            return place >= 0 && place < length ? signs[place] : NO_SIGN;
        }

        void copyFrom(Page other) {
            System.arraycopy(other.signs, 0, signs, 0, other.length);
            length = other.length;
            full = other.full;
        }
    }

    /**
     * The words of a page. A reader steps over them and stops at the first that cannot stand where
     * it stands, so that the wrong place is always where the word begins at which it stopped.
     */
    private static final class Words {
        private final Page page;
        private final int[] begin = new int[MOST_CHARACTERS];
        private final int[] end = new int[MOST_CHARACTERS];
        /** The first character of each word tells which word it is. */
        private final char[] first = new char[MOST_CHARACTERS];
        /** What digits tell; NONE of other words, and of digits that are too long for a number. */
        private final int[] digits = new int[MOST_CHARACTERS];
        private int total;
        private int now;

        Words(Page page) {
            this.page = page;
        }

        /** Sorts of a schema are one letter each; letters elsewhere are names. */
        void split(boolean ofSchema) {
            total = 0;
            now = 0;
            int at = 0;
            boolean sorts = false;
            for (int n = 0; n < MOST_CHARACTERS && at < page.length; n++) {
                char sign = page.signAt(at);
                int next = sorts && isLetter(sign) ? at + 1 : endFrom(at, sign);
                if (sign != BLANK) {
                    begin[total] = at;
                    end[total] = next;
                    first[total] = sign;
                    digits[total] = isDigit(sign) ? digitsBetween(at, next) : NONE;
                    total++;
                }
                sorts = sign == '=' ? ofSchema : sorts && sign != ';';
                at = next == NONE ? page.length : next;
            }
        }

        /** Where the word ends that begins here; NONE for a text that has no end. */
        private int endFrom(int at, char sign) {
            if (sign == QUOTE) {
                return textEndFrom(at);
            }
            int next = at + 1;
            if (isDigit(sign)) {
                while (next < page.length && isDigit(page.signAt(next))) {
                    next++;
                }
            } else if (isLetter(sign)) {
                while (next < page.length && isLetter(page.signAt(next))) {
                    next++;
                }
            }
            return next;
        }

        private int textEndFrom(int at) {
            for (int i = at + 1; i < page.length; i++) {
                if (page.signAt(i) == QUOTE) {
                    if (page.signAt(i + 1) != QUOTE) {
                        return i + 1;
                    }
                    i++;
                }
            }
            return NONE;
        }

        private int digitsBetween(int from, int to) {
            if (to - from > MOST_DIGITS) {
                return NONE;
            }
            int number = 0;
            for (int i = from; i < to; i++) {
                number = number * 10 + page.signAt(i) - '0';
            }
            return number;
        }

        boolean more() {
            return now < total;
        }

        int standsAt() {
            return now < total ? begin[now] : page.length;
        }

        char ahead() {
            return now < total ? first[now] : NO_SIGN;
        }

        void step() {
            now++;
        }

        boolean takes(char sign) {
            boolean stands = now < total && first[now] == sign;
            if (stands) {
                now++;
            }
            return stands;
        }

        /** The name that stands here, a byte a letter; 0 if none, or one too long, does. */
        long nameAhead() {
            if (!isLetter(ahead()) || end[now] - begin[now] > MOST_LETTERS) {
                return 0;
            }
            long name = 0;
            for (int i = begin[now]; i < end[now]; i++) {
                name = name << 8 | page.signAt(i);
            }
            return name;
        }

        int takeNumber() {
            boolean minus = ahead() == '-';
            int word = minus ? now + 1 : now;
            if (word < total && digits[word] != NONE) {
                now = word + 1;
                return minus ? -digits[word] : digits[word];
            }
            // The minus is the place of a number that is too long; where no number follows, it
            // stands rightly, and the word behind it is the wrong one.
            if (word >= total || !isDigit(first[word])) {
                now = word;
            }
            return NO_NUMBER;
        }

        /** The number of a line that stands here; NONE if none does. */
        int lineAhead() {
            if (now >= total || end[now] - begin[now] > MOST_LINE_DIGITS || digits[now] < 1) {
                return NONE;
            }
            return digits[now];
        }

        int takeReference() {
            int number = takes('#') ? lineAhead() : NONE;
            if (number == NONE) {
                return NO_NUMBER;
            }
            now++;
            return number;
        }

        /** How many characters the text has that stands here; NONE if it has no end. */
        int textSize() {
            if (ahead() != QUOTE || end[now] == NONE) {
                return NONE;
            }
            int size = 0;
            for (int i = begin[now] + 1; i < end[now] - 1; i++) {
                i += page.signAt(i) == QUOTE ? 1 : 0;
                size++;
            }
            return size;
        }

        void takeText(Model model, int spot) {
            if (ahead() != QUOTE) {
                return;
            }
            for (int i = begin[now] + 1; i < end[now] - 1; i++) {
                i += page.signAt(i) == QUOTE ? 1 : 0;
                model.addItem(spot, page.signAt(i));
            }
            now++;
        }

        void takeLetters(Model model, int spot) {
            if (!isLetter(ahead())) {
                return;
            }
            for (int i = begin[now]; i < end[now]; i++) {
                model.addItem(spot, page.signAt(i));
            }
            now++;
        }
    }

    /** The kinds of a schema; those of kind i have their sorts from i * MOST_ARGUMENTS on. */
    private static final class Kinds {
        int total;
        final long[] name = new long[MOST_KINDS];
        final int[] size = new int[MOST_KINDS];
        private final int[] sort = new int[MOST_KINDS * MOST_ARGUMENTS];
        private final boolean[] mayBeNothing = new boolean[MOST_KINDS * MOST_ARGUMENTS];

        int find(long wanted) {
            for (int i = 0; i < total; i++) {
                if (name[i] == wanted) {
                    return i;
                }
            }
            return NONE;
        }

        void addKind(long newName) {
            if (total < MOST_KINDS) {
                name[total] = newName;
                size[total] = 0;
                total++;
            }
        }

        /** A sort comes to the kind that was added last. */
        void addSort(int newSort, boolean nothingToo) {
            int kind = total - 1;
            if (kind >= 0 && size[kind] < MOST_ARGUMENTS) {
                int spot = kind * MOST_ARGUMENTS + size[kind];
                sort[spot] = newSort;
                mayBeNothing[spot] = nothingToo;
                size[kind]++;
            }
        }

        /** An empty list was read as one of numbers, but is one of references, too. */
        boolean takesSort(int kind, int k, int given, int length) {
            int spot = kind * MOST_ARGUMENTS + k;
            if (given == NOTHING) {
                return mayBeNothing[spot];
            }
            return given == sort[spot] || given == NUMBERS && length == 0 && sort[spot] == REFERENCES;
        }

        void copyFrom(Kinds other) {
            total = other.total;
            System.arraycopy(other.name, 0, name, 0, MOST_KINDS);
            System.arraycopy(other.size, 0, size, 0, MOST_KINDS);
            for (int spot = 0; spot < total * MOST_ARGUMENTS; spot++) {
                sort[spot] = other.sort[spot];
                mayBeNothing[spot] = other.mayBeNothing[spot];
            }
        }
    }

    /**
     * Lines in rows as the text had them, and their order by numbers. Argument k of a row is at the
     * spot row * MOST_ARGUMENTS + k. Lines that go leave the order alone; their rows stay unused.
     */
    private static final class Model {
        int rows;
        int lines;
        private int used;
        final int[] number = new int[MOST_LINES];
        final long[] name = new long[MOST_LINES];
        final int[] size = new int[MOST_LINES];
        private final int[] order = new int[MOST_LINES];
        final int[] sort = new int[MOST_LINES * MOST_ARGUMENTS];
        /** A number, the line referred to, or how many items there are. */
        final int[] value = new int[MOST_LINES * MOST_ARGUMENTS];
        private final int[] start = new int[MOST_LINES * MOST_ARGUMENTS];
        /** Characters of texts and words, and what is in lists: no more than the text had characters. */
        private final int[] items = new int[MOST_CHARACTERS];

        void clear() {
            rows = 0;
            lines = 0;
            used = 0;
        }

        int rowAt(int place) {
            return place >= 0 && place < lines ? order[place] : NONE;
        }

        int rowOf(int wanted) {
            for (int p = 0; p < lines; p++) {
                if (number[order[p]] == wanted) {
                    return order[p];
                }
            }
            return NONE;
        }

        void addLine(int newNumber, long newName) {
            if (rows >= MOST_LINES) {
                return;
            }
            int p = lines;
            while (p > 0 && number[order[p - 1]] > newNumber) {
                order[p] = order[p - 1];
                p--;
            }
            order[p] = rows;
            number[rows] = newNumber;
            name[rows] = newName;
            size[rows] = 0;
            rows++;
            lines++;
        }

        /** The spot of a further argument of the line that was added last. */
        int addArgument() {
            int row = rows - 1;
            if (row < 0 || size[row] >= MOST_ARGUMENTS) {
                return NONE;
            }
            size[row]++;
            return row * MOST_ARGUMENTS + size[row] - 1;
        }

        void put(int spot, int newSort, int newValue) {
            sort[spot] = newSort;
            value[spot] = newValue;
            start[spot] = used;
        }

        void addItem(int spot, int newItem) {
            if (used < items.length) {
                items[used] = newItem;
                used++;
                value[spot]++;
            }
        }

        int itemsOf(int spot) {
            int its = sort[spot];
            return its == NUMBER || its == REFERENCE || its == NOTHING ? 0 : value[spot];
        }

        int itemAt(int spot, int i) {
            int index = start[spot] + i;
            return index >= 0 && index < used ? items[index] : 0;
        }

        int referencesOf(int row) {
            int found = 0;
            for (int k = 0; k < size[row]; k++) {
                int spot = row * MOST_ARGUMENTS + k;
                if (sort[spot] == REFERENCE) {
                    found++;
                } else if (sort[spot] == REFERENCES) {
                    found += value[spot];
                }
            }
            return found;
        }

        /** The first line in the text that refers to a line that there is not. */
        int firstLost() {
            for (int row = 0; row < rows; row++) {
                for (int k = 0; k < size[row]; k++) {
                    if (isLost(row * MOST_ARGUMENTS + k)) {
                        return number[row];
                    }
                }
            }
            return NONE;
        }

        private boolean isLost(int spot) {
            if (sort[spot] == REFERENCE) {
                return rowOf(value[spot]) == NONE;
            }
            if (sort[spot] == REFERENCES) {
                for (int i = 0; i < value[spot]; i++) {
                    if (rowOf(itemAt(spot, i)) == NONE) {
                        return true;
                    }
                }
            }
            return false;
        }

        boolean isPlaced(int row) {
            if (size[row] <= AXES) {
                return false;
            }
            int spot = row * MOST_ARGUMENTS;
            for (int axis = 0; axis < AXES; axis++) {
                if (sort[spot + axis] != NUMBER) {
                    return false;
                }
            }
            return sort[spot + AXES] == REFERENCE || sort[spot + AXES] == NOTHING;
        }

        /** The placed line that a placed line's place is told from; NONE if there is none. */
        int nextPlaced(int row) {
            int spot = row * MOST_ARGUMENTS + AXES;
            if (sort[spot] != REFERENCE) {
                return NONE;
            }
            int next = rowOf(value[spot]);
            return next != NONE && isPlaced(next) ? next : NONE;
        }

        boolean sameLine(int row, Model other, int otherRow, Leads leads) {
            if (name[row] != other.name[otherRow] || size[row] != other.size[otherRow]) {
                return false;
            }
            for (int k = 0; k < size[row]; k++) {
                int spot = row * MOST_ARGUMENTS + k;
                if (!sameArgument(spot, other, otherRow * MOST_ARGUMENTS + k, leads)) {
                    return false;
                }
            }
            return true;
        }

        private boolean sameArgument(int spot, Model other, int otherSpot, Leads leads) {
            if (sort[spot] != other.sort[otherSpot]) {
                return false;
            }
            if (sort[spot] == REFERENCE) {
                return leads.of(value[spot]) == leads.of(other.value[otherSpot]);
            }
            if (value[spot] != other.value[otherSpot]) {
                return false;
            }
            boolean led = sort[spot] == REFERENCES;
            for (int i = 0; i < itemsOf(spot); i++) {
                int mine = itemAt(spot, i);
                int its = other.itemAt(otherSpot, i);
                if (led ? leads.of(mine) != leads.of(its) : mine != its) {
                    return false;
                }
            }
            return true;
        }

        /** Every reference goes where it is led; lines that are led elsewhere themselves go. */
        void follow(Leads leads) {
            int left = 0;
            for (int p = 0; p < lines; p++) {
                int row = order[p];
                if (leads.of(number[row]) == number[row]) {
                    lead(row, leads);
                    order[left] = row;
                    left++;
                }
            }
            lines = left;
        }

        private void lead(int row, Leads leads) {
            for (int k = 0; k < size[row]; k++) {
                int spot = row * MOST_ARGUMENTS + k;
                if (sort[spot] == REFERENCE) {
                    value[spot] = leads.of(value[spot]);
                } else if (sort[spot] == REFERENCES) {
                    leadItems(spot, leads);
                }
            }
        }

        private void leadItems(int spot, Leads leads) {
            for (int i = start[spot]; i < start[spot] + value[spot] && i < used; i++) {
                items[i] = leads.of(items[i]);
            }
        }

        void copyFrom(Model other) {
            rows = other.rows;
            lines = other.lines;
            used = other.used;
            int spots = other.rows * MOST_ARGUMENTS;
            System.arraycopy(other.number, 0, number, 0, rows);
            System.arraycopy(other.name, 0, name, 0, rows);
            System.arraycopy(other.size, 0, size, 0, rows);
            System.arraycopy(other.order, 0, order, 0, lines);
            System.arraycopy(other.sort, 0, sort, 0, spots);
            System.arraycopy(other.value, 0, value, 0, spots);
            System.arraycopy(other.start, 0, start, 0, spots);
            System.arraycopy(other.items, 0, items, 0, used);
        }
    }

    /** Which line's number stands for a line's number; behind the end of the row each for itself. */
    private static final class Leads {
        private final int[] to;

        Leads(int room) {
            to = new int[room < 0 ? 0 : room];
        }

        int of(int number) {
            return number >= 0 && number < to.length ? to[number] : number;
        }

        void point(int number, int target) {
            if (number >= 0 && number < to.length) {
                to[number] = target;
            }
        }
    }

    /** Reads the words as a schema; where it answers false, the words stand at the wrong one. */
    private static final class SchemaReader {
        final Words words;
        private final Kinds kinds;

        SchemaReader(Words words, Kinds kinds) {
            this.words = words;
            this.kinds = kinds;
        }

        boolean readAll() {
            kinds.total = 0;
            words.split(true);
            for (int n = 0; n <= MOST_KINDS && words.more(); n++) {
                if (!readKind()) {
                    return false;
                }
            }
            return true;
        }

        private boolean readKind() {
            long name = words.nameAhead();
            if (name == 0 || kinds.total >= MOST_KINDS || kinds.find(name) != NONE) {
                return false;
            }
            words.step();
            kinds.addKind(name);
            if (!words.takes('=')) {
                return false;
            }
            for (int k = 0; k < MOST_ARGUMENTS; k++) {
                int sort = SORT_LETTERS.indexOf(words.ahead());
                if (sort == NONE) {
                    return false;
                }
                words.step();
                kinds.addSort(sort, words.takes('?'));
                if (words.takes(';')) {
                    return true;
                }
            }
            return false;
        }
    }

    /** Reads the words as a model; where it answers false, the words stand at the wrong one. */
    private static final class ModelReader {
        final Words words;
        private final Model model;

        ModelReader(Words words, Model model) {
            this.words = words;
            this.model = model;
        }

        boolean readAll() {
            model.clear();
            words.split(false);
            for (int n = 0; n <= MOST_LINES && words.more(); n++) {
                if (!readHead() || !readArguments() || !words.takes(';')) {
                    return false;
                }
            }
            return true;
        }

        private boolean readHead() {
            if (model.rows >= MOST_LINES || !words.takes('#')) {
                return false;
            }
            int number = words.lineAhead();
            if (number == NONE || model.rowOf(number) != NONE) {
                return false;
            }
            words.step();
            if (!words.takes('=')) {
                return false;
            }
            long name = words.nameAhead();
            if (name == 0) {
                return false;
            }
            words.step();
            model.addLine(number, name);
            return words.takes('(');
        }

        private boolean readArguments() {
            for (int k = 0; k < MOST_ARGUMENTS; k++) {
                int spot = model.addArgument();
                if (spot == NONE || !readArgument(spot)) {
                    return false;
                }
                if (words.takes(')')) {
                    return true;
                }
                if (!words.takes(',')) {
                    return false;
                }
            }
            return false;
        }

        private boolean readArgument(int spot) {
            char sign = words.ahead();
            if (sign == '$') {
                words.step();
                model.put(spot, NOTHING, 0);
                return true;
            }
            if (sign == QUOTE) {
                return readText(spot);
            }
            if (sign == '.') {
                return readWord(spot);
            }
            if (sign == '(') {
                return readList(spot);
            }
            boolean refers = sign == '#';
            int number = refers ? words.takeReference() : words.takeNumber();
            model.put(spot, refers ? REFERENCE : NUMBER, number);
            return number != NO_NUMBER;
        }

        private boolean readText(int spot) {
            int size = words.textSize();
            if (size == NONE || size > MOST_IN_TEXT) {
                return false;
            }
            model.put(spot, TEXT, 0);
            words.takeText(model, spot);
            return true;
        }

        private boolean readWord(int spot) {
            if (!words.takes('.') || words.nameAhead() == 0) {
                return false;
            }
            model.put(spot, WORD, 0);
            words.takeLetters(model, spot);
            return words.takes('.');
        }

        private boolean readList(int spot) {
            if (!words.takes('(')) {
                return false;
            }
            boolean refers = words.ahead() == '#';
            model.put(spot, refers ? REFERENCES : NUMBERS, 0);
            if (words.takes(')')) {
                return true;
            }
            for (int i = 0; i < MOST_ITEMS; i++) {
                int number = refers ? words.takeReference() : words.takeNumber();
                if (number == NO_NUMBER) {
                    return false;
                }
                model.addItem(spot, number);
                if (words.takes(')')) {
                    return true;
                }
                if (!words.takes(',')) {
                    return false;
                }
            }
            return false;
        }
    }

    /** Writes lines of a model as a text has them. */
    private static final class Writer {
        private Writer() {
        }

        static void writeLine(Model model, int row, Page page) {
            page.add('#');
            writeNumber(model.number[row], page);
            page.add('=');
            page.addBytes(model.name[row]);
            page.add('(');
            for (int k = 0; k < model.size[row]; k++) {
                if (k > 0) {
                    page.add(',');
                }
                writeArgument(model, row * MOST_ARGUMENTS + k, page);
            }
            page.add(')');
            page.add(';');
        }

        private static void writeArgument(Model model, int spot, Page page) {
            switch (model.sort[spot]) {
                case NUMBER:
                    writeNumber(model.value[spot], page);
                    break;
                case TEXT:
                    writeSigns(model, spot, QUOTE, page);
                    break;
                case REFERENCE:
                    page.add('#');
                    writeNumber(model.value[spot], page);
                    break;
                case WORD:
                    writeSigns(model, spot, '.', page);
                    break;
                case NOTHING:
                    page.add('$');
                    break;
                default:
                    writeList(model, spot, page);
                    break;
            }
        }

        /** Texts and words stand between two signs; only texts can hold theirs, and double it. */
        private static void writeSigns(Model model, int spot, char fence, Page page) {
            page.add(fence);
            for (int i = 0; i < model.itemsOf(spot); i++) {
                char sign = (char) model.itemAt(spot, i);
                page.add(sign);
                if (sign == fence) {
                    page.add(sign);
                }
            }
            page.add(fence);
        }

        private static void writeList(Model model, int spot, Page page) {
            page.add('(');
            for (int i = 0; i < model.itemsOf(spot); i++) {
                if (i > 0) {
                    page.add(',');
                }
                if (model.sort[spot] == REFERENCES) {
                    page.add('#');
                }
                writeNumber(model.itemAt(spot, i), page);
            }
            page.add(')');
        }

        private static void writeNumber(int number, Page page) {
            if (number < 0) {
                page.add('-');
            }
            int rest = number < 0 ? -number : number;
            boolean begun = false;
            for (int unit = 100000000; unit > 0; unit /= 10) {
                int digit = rest / unit % 10;
                begun = begun || digit != 0 || unit == 1;
                if (begun) {
                    page.add((char) ('0' + digit));
                }
            }
        }
    }

    /** What refers to what in a model: a row's references are bits, one for each row. */
    private static final class Graph {
        private final Model model;
        private final long[] direct = new long[MOST_LINES];
        private final long[] reach = new long[MOST_LINES];
        final int[] depth = new int[MOST_LINES];
        /** Of alike lines all lead to the one with the least number. */
        final Leads leads = new Leads(GREATEST_LINE + 1);
        private boolean grouped;

        Graph(Model model) {
            this.model = model;
        }

        /** To be called whenever the lines or their references are others. */
        void learn() {
            grouped = false;
            for (int p = 0; p < model.lines; p++) {
                int row = model.rowAt(p);
                direct[row] = bitsOf(row);
                reach[row] = direct[row];
                depth[row] = NONE;
            }
            reachFurther();
            measureDepths();
        }

        /** To be called when a number is another one. */
        void forgetGroups() {
            grouped = false;
        }

        boolean refersTo(int row, int other) {
            return (direct[row] >>> other & 1L) != 0;
        }

        boolean comesBack(int row) {
            return (reach[row] >>> row & 1L) != 0;
        }

        private long bitsOf(int row) {
            long bits = 0;
            for (int k = 0; k < model.size[row]; k++) {
                int spot = row * MOST_ARGUMENTS + k;
                if (model.sort[spot] == REFERENCE) {
                    bits |= bitOf(model.value[spot]);
                } else if (model.sort[spot] == REFERENCES) {
                    for (int i = 0; i < model.value[spot]; i++) {
                        bits |= bitOf(model.itemAt(spot, i));
                    }
                }
            }
            return bits;
        }

        private long bitOf(int number) {
            int row = model.rowOf(number);
            return row == NONE ? 0 : 1L << row;
        }

        private void reachFurther() {
            for (int p = 0; p < model.lines; p++) {
                int middle = model.rowAt(p);
                for (int q = 0; q < model.lines; q++) {
                    int row = model.rowAt(q);
                    if ((reach[row] >>> middle & 1L) != 0) {
                        reach[row] |= reach[middle];
                    }
                }
            }
        }

        /** Lines that come to a ring never have all their references measured, and stay at NONE. */
        private void measureDepths() {
            long measured = 0;
            boolean more = true;
            for (int round = 0; round < MOST_LINES && more; round++) {
                more = false;
                for (int p = 0; p < model.lines; p++) {
                    int row = model.rowAt(p);
                    if (depth[row] == NONE && (direct[row] & ~measured) == 0) {
                        depth[row] = 1 + deepestOf(direct[row]);
                        measured |= 1L << row;
                        more = true;
                    }
                }
            }
        }

        private int deepestOf(long bits) {
            int deepest = NONE;
            for (int row = 0; row < MOST_LINES; row++) {
                if ((bits >>> row & 1L) != 0) {
                    deepest = Math.max(deepest, depth[row]);
                }
            }
            return deepest;
        }

        /** Alike lines have the same depth, and what they refer to has less: so by depths. */
        void group() {
            if (grouped) {
                return;
            }
            int deepest = NONE;
            for (int p = 0; p < model.lines; p++) {
                int row = model.rowAt(p);
                leads.point(model.number[row], model.number[row]);
                deepest = Math.max(deepest, depth[row]);
            }
            for (int level = 0; level <= deepest; level++) {
                for (int p = 0; p < model.lines; p++) {
                    int row = model.rowAt(p);
                    if (depth[row] == level) {
                        leads.point(model.number[row], firstAlike(row, p));
                    }
                }
            }
            grouped = true;
        }

        private int firstAlike(int row, int place) {
            for (int p = 0; p < place; p++) {
                int other = model.rowAt(p);
                if (depth[other] == depth[row] && model.sameLine(row, model, other, leads)) {
                    return model.number[other];
                }
            }
            return model.number[row];
        }
    }
}
