/**
 * Six readers of a text, three of a row of signs and three of a text of signs, on spans of prints
 * of one draft; they cut their spans into words. DOC.md of the project says what each method does.
 */
public final class Twinreaders {

    /** Signs in the draft, so also in a print, in a span, and words in a span. */
    private static final int LIMIT = 36;
    private static final int GREATEST_CODE = 255;
    private static final int GREATEST_PIECE = 15;
    private static final int GREATEST_INT = 2147483647;
    private static final int READERS = 6;
    private static final int ROW_READERS = 3;
    private static final int CELLS = 8;
    private static final int GREATEST_SIZE = 8;
    private static final int ROW_DOOR = 0;
    private static final int TEXT_DOOR = 1;
    private static final int SOUND_SIZE = 3;

    private static final int REFUSED = -9;
    private static final int NOTHING = -1;

    private static final int NO_WORD = 0;
    private static final int NAME = 1;
    private static final int NUMBER = 2;
    private static final int QUOTED = 3;
    private static final int REMARK = 4;
    private static final int SINGLE = 5;

    private static final int LINE_END = 10;
    private static final int LAST_BLANK = 32;
    private static final int QUOTE = 34;
    private static final int STAR = 42;
    private static final int LESS = 45;
    private static final int DOT = 46;
    private static final int SLASH = 47;
    private static final int ZERO = 48;
    private static final int NINE = 57;
    private static final int UNDERLINE = 95;
    private static final int VALUE_DIGITS = 9;

    private static final long DIGEST_START = 8003L;
    private static final long DIGEST_FACTOR = 31L;

    private final Row draft;
    private Print newest;
    private final Reader[] readers;
    /** Made once and opened anew for each look at a whole span, so that a call makes no readers. */
    private final Reader[] doors;
    private final int[] tray;
    private final Cutter first;
    private final Cutter second;
    private int acts;
    private int refusals;
    private int wordsRead;
    private int knocks;

    public Twinreaders() {
        draft = new Row();
        newest = new Print(0);
        readers = new Reader[READERS];
        for (int i = 0; i < READERS; i++) {
            readers[i] = new Reader(i >= ROW_READERS, newest);
        }
        doors = new Reader[2];
        doors[ROW_DOOR] = new Reader(false, newest);
        doors[TEXT_DOOR] = new Reader(true, newest);
        tray = new int[CELLS];
        for (int i = 0; i < CELLS; i++) {
            tray[i] = DOT;
        }
        first = new Cutter();
        second = new Cutter();
    }

    // ---- the draft and the prints

    public int sign(int code) throws IllegalArgumentException {
        if (code < 0 || code > GREATEST_CODE) {
            throw new IllegalArgumentException("code is not 0 to 255");
        }
        if (draft.many >= LIMIT) {
            return refuse();
        }
        draft.add(code);
        acts++;
        return draft.many;
    }

    public int lay(int piece) throws IllegalArgumentException {
        if (piece < 0 || piece > GREATEST_PIECE) {
            throw new IllegalArgumentException("piece is not 0 to 15");
        }
        String text = pieceText(piece);
        if (text.length() > LIMIT - draft.many) {
            return refuse();
        }
        for (int i = 0; i < text.length(); i++) {
            draft.add(text.charAt(i));
        }
        acts++;
        return draft.many;
    }

    public int cut(int many) throws IllegalArgumentException {
        if (many < 0 || many > LIMIT) {
            throw new IllegalArgumentException("many is not 0 to 36");
        }
        if (many > draft.many) {
            return refuse();
        }
        draft.dropLast(many);
        acts++;
        return draft.many;
    }

    public int print() {
        Print made = new Print(newest.number + 1);
        for (int i = 0; i < draft.many; i++) {
            made.row.add(draft.codeAt(i));
        }
        newest = made;
        acts++;
        return made.number;
    }

    public String draft() {
        return draft.textBetween(0, draft.many);
    }

    public int draftLength() {
        return draft.many;
    }

    // ---- readers: acts

    public int open(int reader, int from, int many) throws IndexOutOfBoundsException {
        Reader own = readerOf(reader);
        int there = newest.row.many;
        if (from < 0 || from > there || many < 0 || many > GREATEST_INT - from) {
            return refuse();
        }
        own.openOn(newest, from, Math.min(many, there - from));
        acts++;
        return own.size;
    }

    public int openWhole(int reader) throws IndexOutOfBoundsException {
        Reader own = readerOf(reader);
        own.openOn(newest, 0, newest.row.many);
        acts++;
        return own.size;
    }

    public int again(int reader) throws IndexOutOfBoundsException {
        Reader own = readerOf(reader);
        own.openOn(own.print, own.begin, own.size);
        acts++;
        return own.size;
    }

    public int copy(int reader, int into) throws IndexOutOfBoundsException {
        Reader own = readerOf(reader);
        Reader other = readerOf(into);
        if (!other.isText && own.place < own.mark) {
            return refuse();
        }
        other.becomeLike(own);
        acts++;
        return other.place;
    }

    public int read(int reader) throws IndexOutOfBoundsException {
        Reader own = readerOf(reader);
        acts++;
        return own.takeSign();
    }

    public int readTray(int reader, int from, int many) throws IndexOutOfBoundsException {
        Reader own = readerOf(reader);
        if (from < 0 || from > CELLS || many < 0 || many > CELLS - from) {
            throw new IndexOutOfBoundsException("from or many is not within the tray");
        }
        acts++;
        if (many > 0 && own.left() == 0) {
            return NOTHING;
        }
        return own.takeInto(tray, from, many);
    }

    public int skip(int reader, int many) throws IndexOutOfBoundsException {
        Reader own = readerOf(reader);
        acts++;
        int step = own.stepFor(many);
        own.place += step;
        return step;
    }

    public int mark(int reader, int limit) throws IndexOutOfBoundsException {
        Reader own = readerOf(reader);
        if (own.isText && limit < 0) {
            return refuse();
        }
        own.mark = own.place;
        acts++;
        return own.place;
    }

    public int reset(int reader) throws IndexOutOfBoundsException {
        Reader own = readerOf(reader);
        own.place = own.mark;
        acts++;
        return own.place;
    }

    // ---- readers: what is asked

    public boolean ready(int reader) throws IndexOutOfBoundsException, IllegalStateException {
        Reader own = readerOf(reader);
        if (own.left() == 0) {
            throw new IllegalStateException("the place is the end");
        }
        return true;
    }

    public int ahead(int reader) throws IndexOutOfBoundsException {
        Reader own = readerOf(reader);
        return own.codeAt(own.place);
    }

    public int rest(int reader) throws IndexOutOfBoundsException {
        return readerOf(reader).left();
    }

    public String restText(int reader, int size)
            throws IndexOutOfBoundsException, IllegalArgumentException {
        Reader own = readerOf(reader);
        checkSize(size);
        first.readRest(own, size);
        return first.row.textBetween(0, first.row.many);
    }

    public int signAt(int reader, int at) throws IndexOutOfBoundsException {
        Reader own = readerOf(reader);
        if (at < 0 || at >= LIMIT) {
            throw new IndexOutOfBoundsException("at is not 0 to 35");
        }
        return own.codeAt(at);
    }

    public int alike(int reader, int other) throws IndexOutOfBoundsException {
        Reader one = readerOf(reader);
        Reader two = readerOf(other);
        int most = Math.min(one.left(), two.left());
        for (int i = 0; i < most; i++) {
            if (one.codeAt(one.place + i) != two.codeAt(two.place + i)) {
                return i;
            }
        }
        return most;
    }

    public int place(int reader) throws IndexOutOfBoundsException {
        return readerOf(reader).place;
    }

    public int marked(int reader) throws IndexOutOfBoundsException {
        return readerOf(reader).mark;
    }

    public int begin(int reader) throws IndexOutOfBoundsException {
        return readerOf(reader).begin;
    }

    public int span(int reader) throws IndexOutOfBoundsException {
        return readerOf(reader).size;
    }

    public int printOf(int reader) throws IndexOutOfBoundsException {
        return readerOf(reader).print.number;
    }

    public int tray(int cell) throws IndexOutOfBoundsException {
        if (cell < 0 || cell >= CELLS) {
            throw new IndexOutOfBoundsException("cell is not 0 to 7");
        }
        return tray[cell];
    }

    public String trayText() {
        StringBuilder text = new StringBuilder();
        for (int code : tray) {
            text.append((char) code);
        }
        return text.toString();
    }

    // ---- words: acts

    public int nextWord(int reader, int size)
            throws IndexOutOfBoundsException, IllegalArgumentException {
        Reader own = readerOf(reader);
        checkSize(size);
        first.cutWords(own, size, 1);
        own.goBehind(first, 0);
        wordsRead += first.count;
        acts++;
        return own.lastKind;
    }

    public int toEnd(int reader, int size)
            throws IndexOutOfBoundsException, IllegalArgumentException {
        Reader own = readerOf(reader);
        checkSize(size);
        first.cutWords(own, size, LIMIT);
        own.goBehind(first, first.count);
        wordsRead += first.count;
        acts++;
        return first.count;
    }

    // ---- words: what is asked of the last word

    public int lastKind(int reader) throws IndexOutOfBoundsException {
        return readerOf(reader).lastKind;
    }

    public String lastText(int reader) throws IndexOutOfBoundsException {
        Reader own = readerOf(reader);
        int from = own.begin + own.lastFrom;
        return own.print.row.textBetween(from, from + own.lastSize);
    }

    public int lastFrom(int reader) throws IndexOutOfBoundsException {
        return readerOf(reader).lastFrom;
    }

    public int lastGap(int reader) throws IndexOutOfBoundsException {
        return readerOf(reader).lastGap;
    }

    // ---- words: what is asked of a whole span

    public int words(int reader, int door, int size)
            throws IndexOutOfBoundsException, IllegalArgumentException {
        return spanWords(reader, door, size).count;
    }

    public String kinds(int reader, int door, int size)
            throws IndexOutOfBoundsException, IllegalArgumentException {
        Cutter cutter = spanWords(reader, door, size);
        StringBuilder text = new StringBuilder();
        for (int i = 0; i < cutter.count; i++) {
            text.append(cutter.kindOf(i));
        }
        return text.toString();
    }

    public int wordFrom(int reader, int which, int door, int size)
            throws IndexOutOfBoundsException, IllegalArgumentException {
        checkWhich(which);
        Cutter cutter = spanWords(reader, door, size);
        return which < cutter.count ? cutter.fromOf(which) : NOTHING;
    }

    public String wordText(int reader, int which, int door, int size)
            throws IndexOutOfBoundsException, IllegalArgumentException {
        checkWhich(which);
        Cutter cutter = spanWords(reader, door, size);
        return cutter.row.textBetween(cutter.fromOf(which), cutter.endOf(which));
    }

    public int wordValue(int reader, int which, int door, int size)
            throws IndexOutOfBoundsException, IllegalArgumentException {
        checkWhich(which);
        Cutter cutter = spanWords(reader, door, size);
        return cutter.kindOf(which) == NUMBER ? cutter.valueOf(which) : 0;
    }

    public String inside(int reader, int which, int door, int size)
            throws IndexOutOfBoundsException, IllegalArgumentException {
        checkWhich(which);
        Cutter cutter = spanWords(reader, door, size);
        return cutter.kindOf(which) == QUOTED ? cutter.insideOf(which) : "";
    }

    public boolean isOpen(int reader, int door, int size)
            throws IndexOutOfBoundsException, IllegalArgumentException {
        return spanWords(reader, door, size).endsOpen();
    }

    public String joined(int reader, int door, int size)
            throws IndexOutOfBoundsException, IllegalArgumentException {
        // Gaps and words follow each other without a hole, so joined they are all that was read.
        Cutter cutter = spanWords(reader, door, size);
        return cutter.row.textBetween(0, cutter.row.many);
    }

    public boolean sameWords(int reader, int other, int size)
            throws IndexOutOfBoundsException, IllegalArgumentException {
        Reader one = readerOf(reader);
        Reader two = readerOf(other);
        checkSize(size);
        first.cutWords(anotherOn(one, ROW_DOOR), size, LIMIT);
        second.cutWords(anotherOn(two, TEXT_DOOR), size, LIMIT);
        if (first.count != second.count) {
            return false;
        }
        for (int i = 0; i < first.count; i++) {
            if (!first.hasSameWord(i, second)) {
                return false;
            }
        }
        return true;
    }

    // ---- the whole

    public int house(int what) throws IllegalArgumentException {
        switch (what) {
            case 0:
                return acts;
            case 1:
                return refusals;
            case 2:
                return wordsRead;
            case 3:
                return knocks;
            default:
                throw new IllegalArgumentException("what is not 0 to 3");
        }
    }

    public int knock() {
        knocks++;
        return knocks;
    }

    public boolean isSound() {
        for (Reader own : readers) {
            if (!own.hasSoundPlaces() || !hasSoundRest(own) || !hasSoundWords(own)) {
                return false;
            }
        }
        return true;
    }

    public long digest() {
        long d = mix(DIGEST_START, draft.many);
        for (int i = 0; i < draft.many; i++) {
            d = mix(d, draft.codeAt(i));
        }
        for (Reader own : readers) {
            d = mixWords(mixReader(d, own), own);
        }
        for (int code : tray) {
            d = mix(d, code);
        }
        d = mix(d, acts);
        d = mix(d, refusals);
        d = mix(d, wordsRead);
        d = mix(d, knocks);
        return mix(d, isSound() ? 1 : 0);
    }

    // ---- what the methods of the face share

    private int refuse() {
        refusals++;
        return REFUSED;
    }

    private Reader readerOf(int reader) throws IndexOutOfBoundsException {
        if (reader < 0 || reader >= READERS) {
            throw new IndexOutOfBoundsException("a reader is not 0 to 5");
        }
        return readers[reader];
    }

    private static void checkSize(int size) throws IllegalArgumentException {
        if (size < 0 || size > GREATEST_SIZE) {
            throw new IllegalArgumentException("size is not 0 to 8");
        }
    }

    private static void checkWhich(int which) throws IndexOutOfBoundsException {
        if (which < 0 || which >= LIMIT) {
            throw new IndexOutOfBoundsException("which is not 0 to 35");
        }
    }

    private Reader anotherOn(Reader own, int door) {
        Reader another = door == ROW_DOOR ? doors[ROW_DOOR] : doors[TEXT_DOOR];
        another.openOn(own.print, own.begin, own.size);
        return another;
    }

    private Cutter spanWords(int reader, int door, int size)
            throws IndexOutOfBoundsException, IllegalArgumentException {
        Reader own = readerOf(reader);
        if (door != ROW_DOOR && door != TEXT_DOOR) {
            throw new IllegalArgumentException("door is not 0 or 1");
        }
        checkSize(size);
        first.cutWords(anotherOn(own, door), size, LIMIT);
        return first;
    }

    private boolean hasSoundRest(Reader own) {
        first.readRest(own, 0);
        second.readRest(own, SOUND_SIZE);
        return own.hasFrom(own.place, first.row) && own.hasFrom(own.place, second.row);
    }

    private boolean hasSoundWords(Reader own) {
        first.cutWords(anotherOn(own, ROW_DOOR), 0, LIMIT);
        second.cutWords(anotherOn(own, TEXT_DOOR), SOUND_SIZE, LIMIT);
        if (!own.hasFrom(0, first.row) || !own.hasFrom(0, second.row)) {
            return false;
        }
        if (first.count != second.count) {
            return false;
        }
        for (int i = 0; i < first.count; i++) {
            if (!first.hasWordAtSamePlace(i, second)) {
                return false;
            }
        }
        return first.onlyLastIsOpen() && second.onlyLastIsOpen();
    }

    private static long mix(long d, long v) {
        return d * DIGEST_FACTOR + v;
    }

    private static long mixReader(long start, Reader own) {
        long d = mix(start, own.print.number);
        d = mix(d, own.begin);
        d = mix(d, own.size);
        d = mix(d, own.place);
        d = mix(d, own.mark);
        d = mix(d, own.codeAt(own.place));
        d = mix(d, own.left());
        d = mix(d, own.lastKind);
        d = mix(d, own.lastFrom);
        d = mix(d, own.lastGap);
        d = mix(d, own.lastSize);
        for (int i = 0; i < own.size; i++) {
            d = mix(d, own.codeAt(i));
        }
        return d;
    }

    private long mixWords(long start, Reader own) {
        first.cutWords(anotherOn(own, ROW_DOOR), 0, LIMIT);
        long d = mix(start, first.count);
        for (int i = 0; i < first.count; i++) {
            d = mix(d, first.kindOf(i));
            d = mix(d, first.fromOf(i));
        }
        return mix(d, first.endsOpen() ? 1 : 0);
    }

    private static String pieceText(int piece) {
        switch (piece) {
            case 0:
                return "ab";
            case 1:
                return "x1_";
            case 2:
                return "007";
            case 3:
                return "-5";
            case 4:
                return "\"a b\"";
            case 5:
                return "\"";
            case 6:
                return "//";
            case 7:
                return "/*";
            case 8:
                return "*/";
            case 9:
                return "\n";
            case 10:
                return " ";
            case 11:
                return "-";
            case 12:
                return "\"\"";
            case 13:
                return "z9 - 12";
            case 14:
                return "/*a*/";
            default:
                return "Q\"//\"";
        }
    }

    private static boolean isBlank(int code) {
        return code >= 0 && code <= LAST_BLANK;
    }

    private static boolean isLetter(int code) {
        return code >= 65 && code <= 90 || code >= 97 && code <= 122 || code == UNDERLINE;
    }

    private static boolean isDigit(int code) {
        return code >= ZERO && code <= NINE;
    }

    /** Signs that follow each other, at most as many as the draft can have. */
    private static final class Row {
        private final int[] signs;
        private int many;

        Row() {
            signs = new int[LIMIT];
        }

        void clear() {
            many = 0;
        }

        void add(int code) {
            if (many >= 0 && many < signs.length) {
                signs[many] = code;
                many++;
            }
        }

        void dropLast(int wanted) {
            many -= Math.max(0, Math.min(wanted, many));
        }

        int codeAt(int at) {
            return at >= 0 && at < many && at < signs.length ? signs[at] : NOTHING;
        }

        String textBetween(int from, int to) {
            StringBuilder text = new StringBuilder();
            int end = Math.min(to, many);
            for (int i = from; i < end; i++) {
                text.append((char) codeAt(i));
            }
            return text.toString();
        }
    }

    /** A row with its number. Readers keep the prints that they have; no list of all is needed. */
    private static final class Print {
        private final int number;
        private final Row row;

        Print(int number) {
            this.number = number;
            row = new Row();
        }
    }

    /** One reader: its span, where it stands in that, and the last word that it read. */
    private static final class Reader {
        private final boolean isText;
        private Print print;
        private int begin;
        private int size;
        private int place;
        private int mark;
        private int lastKind;
        private int lastFrom;
        private int lastSize;
        private int lastGap;

        Reader(boolean isText, Print print) {
            this.isText = isText;
            this.print = print;
        }

        void openOn(Print newPrint, int newBegin, int newSize) {
            print = newPrint;
            begin = newBegin;
            size = newSize;
            place = 0;
            mark = 0;
            lastKind = NO_WORD;
            lastFrom = 0;
            lastSize = 0;
            lastGap = 0;
        }

        void becomeLike(Reader other) {
            print = other.print;
            begin = other.begin;
            size = other.size;
            place = other.place;
            mark = other.mark;
            lastKind = other.lastKind;
            lastFrom = other.lastFrom;
            lastSize = other.lastSize;
            lastGap = other.lastGap;
        }

        int left() {
            return size - place;
        }

        int codeAt(int at) {
            return at >= 0 && at < size ? print.row.codeAt(begin + at) : NOTHING;
        }

        int takeSign() {
            if (left() == 0) {
                return NOTHING;
            }
            int code = print.row.codeAt(begin + place);
            place++;
            return code;
        }

        int takeInto(int[] cells, int from, int wanted) {
            int many = Math.min(wanted, left());
            for (int i = 0; i < many; i++) {
                int cell = from + i;
                if (cell >= 0 && cell < cells.length) {
                    cells[cell] = print.row.codeAt(begin + place + i);
                }
            }
            place += many;
            return many;
        }

        int stepFor(int many) {
            if (many >= 0) {
                return Math.min(many, left());
            }
            // A text reader that stands at its end doesn't go back from there, as the document says.
            if (!isText || left() == 0) {
                return 0;
            }
            return Math.max(many, -place);
        }

        /** The cutter's words are those of the rest, so they are told from this place on. */
        void goBehind(Cutter cutter, int which) {
            lastKind = cutter.kindOf(which);
            lastFrom = place + cutter.fromOf(which);
            lastSize = cutter.endOf(which) - cutter.fromOf(which);
            lastGap = cutter.gapOf(which);
            place += cutter.endOf(which);
            mark = place;
        }

        boolean hasSoundPlaces() {
            boolean within = 0 <= mark && mark <= size && 0 <= place && place <= size;
            return within && (isText || mark <= place);
        }

        /** Whether its print has just the row's signs from the place up to the end. */
        boolean hasFrom(int from, Row row) {
            if (row.many != size - from) {
                return false;
            }
            for (int i = 0; i < row.many; i++) {
                if (row.codeAt(i) != print.row.codeAt(begin + from + i)) {
                    return false;
                }
            }
            return true;
        }
    }

    /** Reads what is left of a reader, which then goes back, and cuts that into words. */
    private static final class Cutter {
        private final Row row;
        private final int[] piece;
        private final int[] kindRow;
        private final int[] fromRow;
        private final int[] endRow;
        private final boolean[] openRow;
        private int count;

        Cutter() {
            row = new Row();
            piece = new int[GREATEST_SIZE];
            kindRow = new int[LIMIT];
            fromRow = new int[LIMIT];
            endRow = new int[LIMIT];
            openRow = new boolean[LIMIT];
        }

        void readRest(Reader reader, int size) {
            int place = reader.place;
            int left = reader.left();
            row.clear();
            count = 0;
            for (int turn = 0; turn < LIMIT && row.many < left; turn++) {
                if (size == 0) {
                    row.add(reader.takeSign());
                } else {
                    int got = reader.takeInto(piece, 0, size);
                    for (int i = 0; i < got && i < piece.length; i++) {
                        row.add(piece[i]);
                    }
                }
            }
            reader.place = place;
        }

        void cutWords(Reader reader, int size, int most) {
            readRest(reader, size);
            int at = 0;
            for (int i = 0; i < most && i < LIMIT; i++) {
                int from = gapEnd(at);
                if (from >= row.many) {
                    return;
                }
                int kind = kindFrom(from);
                int end = endFrom(kind, from);
                at = end == NOTHING ? row.many : end;
                kindRow[i] = kind;
                fromRow[i] = from;
                endRow[i] = at;
                openRow[i] = end == NOTHING;
                count = i + 1;
            }
        }

        int kindOf(int which) {
            return which >= 0 && which < count && which < LIMIT ? kindRow[which] : NO_WORD;
        }

        /** What is no word begins and ends at the end, as the document says of the last one. */
        int fromOf(int which) {
            return which >= 0 && which < count && which < LIMIT ? fromRow[which] : row.many;
        }

        int endOf(int which) {
            return which >= 0 && which < count && which < LIMIT ? endRow[which] : row.many;
        }

        int gapOf(int which) {
            return which > 0 ? fromOf(which) - endOf(which - 1) : fromOf(which);
        }

        boolean isOpenWord(int which) {
            return which >= 0 && which < count && which < LIMIT && openRow[which];
        }

        boolean endsOpen() {
            return isOpenWord(count - 1);
        }

        boolean onlyLastIsOpen() {
            for (int i = 0; i < count - 1; i++) {
                if (isOpenWord(i)) {
                    return false;
                }
            }
            return true;
        }

        int valueOf(int which) {
            int from = fromOf(which);
            int end = endOf(which);
            boolean below = row.codeAt(from) == LESS;
            int value = 0;
            for (int i = Math.max(below ? from + 1 : from, end - VALUE_DIGITS); i < end; i++) {
                value = value * 10 + row.codeAt(i) - ZERO;
            }
            return below ? -value : value;
        }

        String insideOf(int which) {
            StringBuilder text = new StringBuilder();
            int end = isOpenWord(which) ? endOf(which) : endOf(which) - 1;
            for (int i = fromOf(which) + 1; i < end; i++) {
                int code = row.codeAt(i);
                text.append((char) code);
                if (code == QUOTE && i + 1 < end && row.codeAt(i + 1) == QUOTE) {
                    i++;
                }
            }
            return text.toString();
        }

        boolean hasSameWord(int which, Cutter other) {
            int from = fromOf(which);
            int otherFrom = other.fromOf(which);
            int many = endOf(which) - from;
            if (kindOf(which) != other.kindOf(which) || many != other.endOf(which) - otherFrom) {
                return false;
            }
            for (int i = 0; i < many; i++) {
                if (row.codeAt(from + i) != other.row.codeAt(otherFrom + i)) {
                    return false;
                }
            }
            return true;
        }

        boolean hasWordAtSamePlace(int which, Cutter other) {
            return kindOf(which) == other.kindOf(which)
                    && fromOf(which) == other.fromOf(which)
                    && endOf(which) == other.endOf(which);
        }

        private int kindFrom(int from) {
            int code = row.codeAt(from);
            int next = row.codeAt(from + 1);
            if (isLetter(code)) {
                return NAME;
            }
            if (isDigit(code) || code == LESS && isDigit(next)) {
                return NUMBER;
            }
            if (code == QUOTE) {
                return QUOTED;
            }
            return code == SLASH && (next == SLASH || next == STAR) ? REMARK : SINGLE;
        }

        /** NOTHING if the word is open. */
        private int endFrom(int kind, int from) {
            switch (kind) {
                case NAME:
                    return nameEnd(from + 1);
                case NUMBER:
                    return numberEnd(from + 1);
                case QUOTED:
                    return quotedEnd(from + 1);
                case REMARK:
                    return row.codeAt(from + 1) == STAR ? starredEnd(from + 2) : lineEnd(from + 2);
                default:
                    return from + 1;
            }
        }

        private int gapEnd(int from) {
            for (int i = from; i < row.many; i++) {
                if (!isBlank(row.codeAt(i))) {
                    return i;
                }
            }
            return row.many;
        }

        private int nameEnd(int from) {
            for (int i = from; i < row.many; i++) {
                int code = row.codeAt(i);
                if (!isLetter(code) && !isDigit(code)) {
                    return i;
                }
            }
            return row.many;
        }

        private int numberEnd(int from) {
            for (int i = from; i < row.many; i++) {
                if (!isDigit(row.codeAt(i))) {
                    return i;
                }
            }
            return row.many;
        }

        private int lineEnd(int from) {
            for (int i = from; i < row.many; i++) {
                if (row.codeAt(i) == LINE_END) {
                    return i;
                }
            }
            return row.many;
        }

        private int quotedEnd(int from) {
            for (int i = from; i < row.many; i++) {
                if (row.codeAt(i) == QUOTE) {
                    if (row.codeAt(i + 1) != QUOTE) {
                        return i + 1;
                    }
                    i++;
                }
            }
            return NOTHING;
        }

        /** Begins one sign later, for the star of the remark's begin can't be that of its end. */
        private int starredEnd(int from) {
            for (int i = from + 1; i < row.many; i++) {
                if (row.codeAt(i) == SLASH && row.codeAt(i - 1) == STAR) {
                    return i + 1;
                }
            }
            return NOTHING;
        }
    }
}
