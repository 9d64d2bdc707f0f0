import java.io.CharArrayReader;
import java.io.IOException;
import java.io.Reader;
import java.io.StringReader;
import java.util.ArrayList;
import java.util.List;
import java.util.regex.Matcher;
import java.util.regex.Pattern;

/**
 * Runs of 512 calls, drawn by a fixed rule, are answered by the class and by an oracle made of the
 * Java library: its readers for places and marks, a regular expression for the words.
 */
public final class OracleTest {
    private static final int RUNS = 600;
    private static final int CALLS = 512;
    private static final String INDEX = "throws.IndexOutOfBoundsException";
    private static final String ARGUMENT = "throws.IllegalArgumentException";
    private static final String STATE = "throws.IllegalStateException";
    private static final String[] PIECES = {"ab", "x1_", "007", "-5", "\"a b\"", "\"", "//", "/*", "*/", "\n", " ",
        "-", "\"\"", "z9 - 12", "/*a*/", "Q\"//\""};
    private static final int[] ODD = {-1, -2, -9, 36, 37, 5, 6, 8, 9, 255, 256, Integer.MAX_VALUE,
        Integer.MAX_VALUE - 1, Integer.MIN_VALUE, Integer.MIN_VALUE + 1};

    private static int wrong = 0;

    private static final class Word {
        int kind;
        int from;
        int gap;
        String text = "";
        boolean open;
    }

    private static final Pattern WORD = Pattern.compile("([\\x00-\\x20]*+)(?:"
            + "([A-Za-z_][A-Za-z_0-9]*+)"
            + "|(-?[0-9]++)"
            + "|(\"(?:[^\"]|\"\")*+(?:\"|(\\z)))"
            + "|(//[^\\n]*+|/\\*(?:(?!\\*/)[\\x00-\\xff])*+(?:\\*/|(\\z)))"
            + "|([\\x00-\\xff]))");

    /** The word from the place on; one of kind 0 if there is none. */
    private static Word wordAt(String text, int place) {
        Word word = new Word();
        Matcher m = WORD.matcher(text).region(place, text.length());
        if (m.lookingAt() && m.end(1) < text.length()) {
            word.gap = m.end(1) - place;
            word.from = m.end(1);
            word.text = text.substring(word.from, m.end());
            word.kind = m.group(2) != null ? 1 : m.group(3) != null ? 2 : m.group(4) != null ? 3
                    : m.group(6) != null ? 4 : 5;
            word.open = m.group(5) != null || m.group(7) != null;
        } else {
            word.gap = text.length() - place;
            word.from = text.length();
        }
        return word;
    }

    private static List<Word> wordsOf(String text) {
        List<Word> all = new ArrayList<>();
        Word word = wordAt(text, 0);
        while (word.kind != 0) {
            all.add(word);
            word = wordAt(text, word.from + word.text.length());
        }
        return all;
    }

    /** One reader: the library's own reader stands at the place, and knows its mark. */
    private static final class One {
        final boolean isText;
        int number;
        int begin;
        String span = "";
        Reader reader;
        int mark;
        Word last = new Word();

        One(boolean isText) {
            this.isText = isText;
        }

        void open(int newNumber, int newBegin, String newSpan) {
            number = newNumber;
            begin = newBegin;
            span = newSpan;
            last = new Word();
            mark = 0;
            // Blanks ahead of a row reader's part, for it is one of a longer row.
            reader = isText ? new StringReader(span)
                    : new CharArrayReader(("##" + span + "##").toCharArray(), 2, span.length());
        }

        /** How many are read up to the end, and back again. */
        int left() {
            try {
                Reader other = reader;
                int count = 0;
                StringBuilder rest = new StringBuilder();
                for (int c = other.read(); c >= 0; c = other.read()) {
                    count++;
                    rest.append((char) c);
                }
                seek(span.length() - count);
                if (!span.endsWith(rest.toString())) {
                    throw new AssertionError("the oracle's own reader is off");
                }
                return count;
            } catch (IOException e) {
                throw new AssertionError(e);
            }
        }

        int place() {
            return span.length() - left();
        }

        /** Stands at the place then, with the mark where it was. */
        void seek(int place) {
            try {
                int oldMark = mark;
                String oldSpan = span;
                Word oldLast = last;
                open(number, begin, oldSpan);
                last = oldLast;
                reader.skip(oldMark);
                reader.mark(1);
                mark = oldMark;
                if (place >= oldMark) {
                    reader.skip(place - oldMark);
                } else {
                    // Only a text reader goes back: from its begin, not from its end.
                    reader = new StringReader(oldSpan);
                    reader.skip(oldMark);
                    reader.mark(1);
                    if (oldMark < oldSpan.length()) {
                        reader.skip(place - oldMark);
                    } else {
                        reader = new Back(oldSpan, place, oldMark);
                    }
                }
            } catch (IOException e) {
                throw new AssertionError(e);
            }
        }

        void takeWord() {
            int place = place();
            last = wordAt(span, place);
            mark = last.from + last.text.length();
            seek(mark);
        }
    }

    /** A text reader whose mark is at its end, and whose place is not. */
    private static final class Back extends Reader {
        private final String text;
        private int at;
        private int marked;

        Back(String text, int at, int marked) {
            this.text = text;
            this.at = at;
            this.marked = marked;
        }

        @Override
        public int read() {
            return at < text.length() ? text.charAt(at++) : -1;
        }

        @Override
        public int read(char[] cells, int from, int many) {
            if (many == 0) {
                return 0;
            }
            if (at >= text.length()) {
                return -1;
            }
            int got = Math.min(many, text.length() - at);
            text.getChars(at, at + got, cells, from);
            at += got;
            return got;
        }

        @Override
        public long skip(long many) {
            if (at >= text.length()) {
                return 0;
            }
            long step = Math.max(-at, Math.min(many, text.length() - at));
            at += (int) step;
            return step;
        }

        @Override
        public void mark(int limit) {
            if (limit < 0) {
                throw new IllegalArgumentException();
            }
            marked = at;
        }

        @Override
        public void reset() {
            at = marked;
        }

        @Override
        public void close() {
        }
    }

    private final StringBuilder draft = new StringBuilder();
    private final List<String> prints = new ArrayList<>(List.of(""));
    private final One[] ones = new One[6];
    private final char[] tray = "........".toCharArray();
    private int acts;
    private int refusals;
    private int wordsRead;
    private int knocks;

    private OracleTest() {
        for (int i = 0; i < 6; i++) {
            ones[i] = new One(i >= 3);
            ones[i].open(0, 0, "");
        }
    }

    private static void index(boolean there) {
        if (!there) {
            throw new IndexOutOfBoundsException();
        }
    }

    private static void argument(boolean there) {
        if (!there) {
            throw new IllegalArgumentException();
        }
    }

    private static boolean in(int v, int low, int high) {
        return v >= low && v <= high;
    }

    private Object act(Object answer) {
        acts++;
        return answer;
    }

    private Object refuse() {
        refusals++;
        return -9;
    }

    private Object lay(String text) {
        if (draft.length() + text.length() > 36) {
            return refuse();
        }
        draft.append(text);
        return act(draft.length());
    }

    private Object drafted(String name, int[] a) {
        switch (name) {
            case "sign":
                argument(in(a[0], 0, 255));
                return lay(String.valueOf((char) a[0]));
            case "lay":
                argument(in(a[0], 0, 15));
                return lay(PIECES[a[0]]);
            case "cut":
                argument(in(a[0], 0, 36));
                if (a[0] > draft.length()) {
                    return refuse();
                }
                draft.setLength(draft.length() - a[0]);
                return act(draft.length());
            case "print":
                prints.add(draft.toString());
                return act(prints.size() - 1);
            case "draft":
                return draft.toString();
            case "draftLength":
                return draft.length();
            case "trayText":
                return new String(tray);
            case "tray":
                index(in(a[0], 0, 7));
                return (int) tray[a[0]];
            case "house":
                argument(in(a[0], 0, 3));
                return new int[] {acts, refusals, wordsRead, knocks}[a[0]];
            case "knock":
                return ++knocks;
            case "isSound":
                return true;
            case "digest":
                return digest();
            default:
                return null;
        }
    }

    private Object acted(String name, int[] a, One r) throws IOException {
        int newest = prints.size() - 1;
        String text = prints.get(newest);
        switch (name) {
            case "open":
                if (a[1] < 0 || a[1] > text.length() || a[2] < 0 || (long) a[1] + a[2] > Integer.MAX_VALUE) {
                    return refuse();
                }
                r.open(newest, a[1], text.substring(a[1], (int) Math.min((long) a[1] + a[2], text.length())));
                return act(r.span.length());
            case "openWhole":
                r.open(newest, 0, text);
                return act(r.span.length());
            case "again":
                r.open(r.number, r.begin, r.span);
                return act(r.span.length());
            case "copy":
                return copied(r, a[1]);
            case "read":
                return act(r.reader.read());
            case "readTray":
                index(in(a[1], 0, 8));
                index(in(a[2], 0, 8 - a[1]));
                return act(a[2] == 0 ? 0 : r.reader.read(tray, a[1], a[2]));
            case "skip":
                return act((int) r.reader.skip(a[1]));
            case "mark":
                return marked(r, a[1]);
            case "reset":
                r.reader.reset();
                return act(r.place());
            case "nextWord":
                argument(in(a[1], 0, 8));
                r.takeWord();
                wordsRead += r.last.kind == 0 ? 0 : 1;
                return act(r.last.kind);
            case "toEnd":
                argument(in(a[1], 0, 8));
                int count = 0;
                for (r.takeWord(); r.last.kind != 0; r.takeWord()) {
                    count++;
                }
                wordsRead += count;
                return act(count);
            default:
                return null;
        }
    }

    private Object copied(One r, int into) {
        index(in(into, 0, 5));
        int place = r.place();
        One other = ones[into];
        if (!other.isText && place < r.mark) {
            return refuse();
        }
        int mark = r.mark;
        Word last = r.last;
        other.open(r.number, r.begin, r.span);
        other.mark = mark;
        other.last = last;
        other.seek(place);
        return act(place);
    }

    private Object marked(One r, int limit) throws IOException {
        int place = r.place();
        try {
            r.reader.mark(limit);
        } catch (IllegalArgumentException e) {
            return refuse();
        }
        r.mark = place;
        return act(place);
    }

    private Object asked(String name, int[] a, One r) {
        int place = r.place();
        switch (name) {
            case "ready":
                if (place == r.span.length()) {
                    throw new IllegalStateException();
                }
                return true;
            case "ahead":
                return place < r.span.length() ? (int) r.span.charAt(place) : -1;
            case "rest":
                return r.span.length() - place;
            case "restText":
                argument(in(a[1], 0, 8));
                return r.span.substring(place);
            case "signAt":
                index(in(a[1], 0, 35));
                return a[1] < r.span.length() ? (int) r.span.charAt(a[1]) : -1;
            case "alike":
                index(in(a[1], 0, 5));
                return alike(r.span.substring(place), ones[a[1]].span.substring(ones[a[1]].place()));
            case "place":
                return place;
            case "marked":
                return r.mark;
            case "begin":
                return r.begin;
            case "span":
                return r.span.length();
            case "printOf":
                return r.number;
            case "lastKind":
                return r.last.kind;
            case "lastText":
                return r.last.text;
            case "lastFrom":
                return r.last.from;
            case "lastGap":
                return r.last.gap;
            default:
                return null;
        }
    }

    private static int alike(String one, String two) {
        int n = 0;
        while (n < one.length() && n < two.length() && one.charAt(n) == two.charAt(n)) {
            n++;
        }
        return n;
    }

    private Object cutUp(String name, int[] a, One r) {
        if (name.equals("sameWords")) {
            index(in(a[1], 0, 5));
            argument(in(a[2], 0, 8));
            return told(r).equals(told(ones[a[1]]));
        }
        int more = name.startsWith("word") && !name.equals("words") || name.equals("inside") ? 1 : 0;
        index(more == 0 || in(a[1], 0, 35));
        argument(in(a[1 + more], 0, 1));
        argument(in(a[2 + more], 0, 8));
        List<Word> all = wordsOf(r.span);
        Word word = more == 1 && a[1] < all.size() ? all.get(a[1]) : null;
        switch (name) {
            case "words":
                return all.size();
            case "kinds":
                StringBuilder kinds = new StringBuilder();
                all.forEach(w -> kinds.append(w.kind));
                return kinds.toString();
            case "wordFrom":
                return word == null ? -1 : word.from;
            case "wordText":
                return word == null ? "" : word.text;
            case "wordValue":
                return word == null || word.kind != 2 ? 0 : value(word.text);
            case "inside":
                return word == null || word.kind != 3 ? "" : inside(word);
            case "isOpen":
                return !all.isEmpty() && all.get(all.size() - 1).open;
            default:
                return r.span;
        }
    }

    private static String told(One r) {
        StringBuilder text = new StringBuilder();
        wordsOf(r.span).forEach(w -> text.append(w.kind).append('<').append(w.text).append('>').append('\u1000'));
        return text.toString();
    }

    private static int value(String text) {
        String digits = text.replace("-", "");
        int value = Integer.parseInt(digits.substring(Math.max(0, digits.length() - 9)));
        return text.startsWith("-") ? -value : value;
    }

    private static String inside(Word word) {
        return word.text.substring(1, word.text.length() - (word.open ? 0 : 1)).replace("\"\"", "\"");
    }

    private Object digest() {
        List<Integer> all = new ArrayList<>();
        all.add(draft.length());
        draft.chars().forEach(all::add);
        for (One r : ones) {
            int place = r.place();
            int size = r.span.length();
            all.addAll(List.of(r.number, r.begin, size, place, r.mark));
            all.addAll(List.of(place < size ? r.span.charAt(place) : -1, size - place));
            all.addAll(List.of(r.last.kind, r.last.from, r.last.gap, r.last.text.length()));
            r.span.chars().forEach(all::add);
            List<Word> words = wordsOf(r.span);
            all.add(words.size());
            words.forEach(w -> all.addAll(List.of(w.kind, w.from)));
            all.add(words.isEmpty() || !words.get(words.size() - 1).open ? 0 : 1);
        }
        for (char c : tray) {
            all.add((int) c);
        }
        all.addAll(List.of(acts, refusals, wordsRead, knocks, 1));
        long d = 8003;
        for (int v : all) {
            d = d * 31 + v;
        }
        return d;
    }

    private Object answer(String name, int[] a) {
        try {
            Object answer = drafted(name, a);
            if (answer != null) {
                return answer;
            }
            index(in(a[0], 0, 5));
            answer = acted(name, a, ones[a[0]]);
            if (answer == null) {
                answer = asked(name, a, ones[a[0]]);
            }
            return answer != null ? answer : cutUp(name, a, ones[a[0]]);
        } catch (IndexOutOfBoundsException e) {
            return INDEX;
        } catch (IllegalArgumentException e) {
            return ARGUMENT;
        } catch (IllegalStateException e) {
            return STATE;
        } catch (IOException e) {
            throw new AssertionError(e);
        }
    }

    // ---- the runs

    private static final String[] NAMES = {"sign", "lay", "cut", "print", "draft", "draftLength", "open", "openWhole",
        "again", "copy", "read", "readTray", "skip", "mark", "reset", "ready", "ahead", "rest", "restText", "signAt",
        "alike", "place", "marked", "begin", "span", "printOf", "tray", "trayText", "nextWord", "toEnd", "lastKind",
        "lastText", "lastFrom", "lastGap", "words", "kinds", "wordFrom", "wordText", "wordValue", "inside", "isOpen",
        "joined", "sameWords", "house", "knock", "isSound", "digest"};
    private static final String[] OFTEN = {"sign", "lay", "lay", "lay", "lay", "cut", "print", "open", "openWhole",
        "copy", "read", "readTray", "skip", "skip", "mark", "reset", "nextWord", "nextWord", "toEnd"};

    private static long seed;

    private static int draw(int bound) {
        seed = seed * 6364136223846793005L + 1442695040888963407L;
        return (int) ((seed >>> 33) % bound);
    }

    private static final String CODES = "ab_Z019-\"\"/**/ \n;\u0000\u001f!\u00ff";

    private static int argumentOf(String name, int i, int arity) {
        if (draw(40) == 0) {
            return ODD[draw(ODD.length)];
        }
        switch (name) {
            case "sign":
                return draw(3) == 0 ? draw(256) : CODES.charAt(draw(CODES.length()));
            case "lay":
                return draw(16);
            case "cut":
                return draw(4) == 0 ? draw(37) : draw(9);
            case "house":
                return draw(4);
            case "tray":
                return draw(8);
            default:
                break;
        }
        boolean which = arity == 4 && i == 1 || name.equals("signAt") && i == 1;
        boolean door = arity == 4 && i == 2 || arity == 3 && i == 1 && !name.equals("sameWords");
        if (i == 0 || (name.equals("copy") || name.equals("alike") || name.equals("sameWords")) && i == 1) {
            return draw(6);
        }
        if (name.equals("open")) {
            return i == 1 ? draw(4) == 0 ? draw(37) : draw(5) : draw(38);
        }
        if (name.equals("readTray")) {
            return draw(5);
        }
        if (name.equals("skip")) {
            return draw(21) - 10;
        }
        if (name.equals("mark")) {
            return draw(4) - 1;
        }
        return which ? draw(draw(4) == 0 ? 36 : 10) : door ? draw(2) : draw(9);
    }

    private static Object call(Twinreaders x, String name, int[] a) throws ReflectiveOperationException {
        Class<?>[] types = new Class<?>[a.length];
        Object[] values = new Object[a.length];
        for (int i = 0; i < a.length; i++) {
            types[i] = int.class;
            values[i] = a[i];
        }
        try {
            return Twinreaders.class.getMethod(name, types).invoke(x, values);
        } catch (java.lang.reflect.InvocationTargetException e) {
            return "throws." + e.getCause().getClass().getSimpleName();
        }
    }

    private static int arityOf(String name) {
        for (java.lang.reflect.Method m : Twinreaders.class.getMethods()) {
            if (m.getName().equals(name) && m.getDeclaringClass() == Twinreaders.class) {
                return m.getParameterCount();
            }
        }
        throw new AssertionError("no method " + name);
    }

    private static void compare(int run, int n, Twinreaders x, OracleTest oracle, String name, int[] a)
            throws ReflectiveOperationException {
        Object want = oracle.answer(name, a);
        Object got = call(x, name, a);
        if (!want.equals(got)) {
            wrong++;
            if (wrong <= 20) {
                System.out.println("run " + run + ", call " + n + ": " + name + java.util.Arrays.toString(a)
                        + " answered " + got + ", due is " + want);
            }
        }
    }

    public static void main(String[] args) throws ReflectiveOperationException {
        int[] arities = new int[NAMES.length];
        for (int i = 0; i < NAMES.length; i++) {
            arities[i] = arityOf(NAMES[i]);
        }
        List<String> names = List.of(NAMES);
        for (int run = 0; run < RUNS; run++) {
            seed = run * 7919L + 17;
            Twinreaders x = new Twinreaders();
            OracleTest oracle = new OracleTest();
            for (int n = 0; n < CALLS; n++) {
                String name = draw(3) == 0 ? NAMES[draw(NAMES.length)] : OFTEN[draw(OFTEN.length)];
                int[] a = new int[arities[names.indexOf(name)]];
                for (int i = 0; i < a.length; i++) {
                    a[i] = argumentOf(name, i, a.length);
                }
                compare(run, n, x, oracle, name, a);
                if (n % 16 == 15) {
                    compare(run, n, x, oracle, "digest", new int[0]);
                    compare(run, n, x, oracle, "isSound", new int[0]);
                }
            }
        }
        System.out.println(wrong == 0 ? "all answers are as due" : wrong + " answers are not as due");
        if (wrong != 0) {
            System.exit(1);
        }
    }
}
