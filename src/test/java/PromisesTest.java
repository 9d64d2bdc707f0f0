import java.lang.reflect.Method;
import java.lang.reflect.Modifier;
import java.util.Arrays;
import java.util.TreeSet;
import java.util.function.Supplier;

/** Each promise of the document by itself, with answers that were worked out by hand. */
public final class PromisesTest {
    private static final String INDEX = "throws.IndexOutOfBoundsException";
    private static final String ARGUMENT = "throws.IllegalArgumentException";
    private static final String STATE = "throws.IllegalStateException";
    private static final int MAX = Integer.MAX_VALUE;
    private static final int MIN = Integer.MIN_VALUE;
    private static final int[] BAD_READERS = {-1, 6, MAX, MIN};
    private static final int[] BAD_SIZES = {-1, 9, MAX, MIN};
    private static final int[] BAD_DOORS = {-1, 2, MAX, MIN};

    private static int wrong = 0;
    private static String promise = "";

    public static void main(String[] args) {
        face();
        newObject();
        signs();
        pieces();
        cuts();
        prints();
        drafts();
        opens();
        opensWhole();
        opensAgain();
        copies();
        reads();
        readsIntoTray();
        skips();
        marks();
        resets();
        readiness();
        looksAhead();
        rests();
        restTexts();
        signsAt();
        alikes();
        placesAndMarks();
        spans();
        trays();
        nextWords();
        nextWordsFromInside();
        toEnds();
        lastWords();
        wordsOfSpans();
        names();
        numbers();
        quotedOnes();
        remarks();
        singles();
        blanks();
        wordsAt();
        openOnes();
        joinedOnes();
        sameOnes();
        doorsAndSizes();
        houses();
        knocks();
        soundAndDigest();
        refusalsChangeNothing();
        exceptionsChangeNothing();
        System.out.println(wrong == 0 ? "all answers are as due" : wrong + " answers are not as due");
        if (wrong != 0) {
            System.exit(1);
        }
    }

    // ---- tools

    private static void due(String what, Object got, Object want) {
        if (!want.equals(got)) {
            wrong++;
            System.out.println(promise + ": " + what + " answered " + got + ", due is " + want);
        }
    }

    /** Runs a call; tells its answer, or the name of what it throws. */
    private static Object of(Supplier<Object> call) {
        try {
            return call.get();
        } catch (RuntimeException e) {
            return "throws." + e.getClass().getSimpleName();
        }
    }

    private static void dueOf(String what, Supplier<Object> call, Object want) {
        due(what, of(call), want);
    }

    private interface ReaderCall {
        Object on(int reader);
    }

    /** A reader that there is not is refused, and nothing is changed then. */
    private static void badReaders(Twinreaders x, String what, ReaderCall call) {
        long before = x.digest();
        for (int reader : BAD_READERS) {
            dueOf(what + " of reader " + reader, () -> call.on(reader), INDEX);
        }
        due("digest() behind " + what, x.digest(), before);
    }

    private static void badSizes(Twinreaders x, String what, ReaderCall call) {
        long before = x.digest();
        for (int size : BAD_SIZES) {
            dueOf(what + " with size " + size, () -> call.on(size), ARGUMENT);
        }
        due("digest() behind " + what, x.digest(), before);
    }

    private static void badDoors(Twinreaders x, String what, ReaderCall call) {
        long before = x.digest();
        for (int door : BAD_DOORS) {
            dueOf(what + " with door " + door, () -> call.on(door), ARGUMENT);
        }
        due("digest() behind " + what, x.digest(), before);
    }

    private static void type(Twinreaders x, String text) {
        x.cut(x.draftLength());
        for (int i = 0; i < text.length(); i++) {
            x.sign(text.charAt(i));
        }
    }

    /** A new object with a print of the text, on all of which each reader is opened. */
    private static Twinreaders on(String text) {
        Twinreaders x = new Twinreaders();
        type(x, text);
        x.print();
        for (int reader = 0; reader < 6; reader++) {
            x.openWhole(reader);
        }
        return x;
    }

    private static String state(Twinreaders x, int reader) {
        return x.printOf(reader) + ":" + x.begin(reader) + "+" + x.span(reader) + " " + x.place(reader)
                + "/" + x.marked(reader) + " " + x.lastKind(reader) + "@" + x.lastFrom(reader) + "^"
                + x.lastGap(reader) + "<" + x.lastText(reader) + ">";
    }

    // ---- the promises

    private static void face() {
        promise = "face";
        TreeSet<String> names = new TreeSet<>();
        int methods = 0;
        for (Method m : Twinreaders.class.getDeclaredMethods()) {
            if (Modifier.isPublic(m.getModifiers())) {
                names.add(m.getName());
                methods++;
            } else {
                due("visibility of " + m.getName(), Modifier.isPrivate(m.getModifiers()) || m.isSynthetic(), true);
            }
        }
        due("public methods", methods, 47);
        due("their names", names.toString(), new TreeSet<>(Arrays.asList("sign", "lay", "cut", "print", "draft",
                "draftLength", "open", "openWhole", "again", "copy", "read", "readTray", "skip", "mark", "reset",
                "ready", "ahead", "rest", "restText", "signAt", "alike", "place", "marked", "begin", "span",
                "printOf", "tray", "trayText", "nextWord", "toEnd", "lastKind", "lastText", "lastFrom", "lastGap",
                "words", "kinds", "wordFrom", "wordText", "wordValue", "inside", "isOpen", "joined", "sameWords",
                "house", "knock", "isSound", "digest")).toString());
        due("constructors", Twinreaders.class.getConstructors().length, 1);
        due("fields", Twinreaders.class.getFields().length, 0);
        due("final", Modifier.isFinal(Twinreaders.class.getModifiers()), true);
    }

    private static void newObject() {
        promise = "promise 1";
        Twinreaders x = new Twinreaders();
        for (int reader = 0; reader < 6; reader++) {
            due("reader " + reader, state(x, reader), "0:0+0 0/0 0@0^0<>");
            due("rest", x.rest(reader), 0);
            due("ahead", x.ahead(reader), -1);
            due("words", x.words(reader, 0, 0), 0);
        }
        due("draft", x.draft(), "");
        due("draftLength", x.draftLength(), 0);
        due("tray", x.trayText(), "........");
        for (int what = 0; what < 4; what++) {
            due("house " + what, x.house(what), 0);
        }
        Twinreaders y = new Twinreaders();
        y.sign(65);
        y.print();
        y.openWhole(0);
        y.readTray(0, 0, 1);
        due("another object's draft", x.draft(), "");
        due("another object's tray", x.trayText(), "........");
        due("another object's span", x.openWhole(0), 0);
    }

    private static void signs() {
        promise = "promise 2";
        Twinreaders x = new Twinreaders();
        due("sign(0)", x.sign(0), 1);
        due("sign(255)", x.sign(255), 2);
        due("draft", x.draft(), "\u0000\u00ff");
        for (int bad : new int[] {-1, 256, MAX, MIN}) {
            dueOf("sign " + bad, () -> x.sign(bad), ARGUMENT);
        }
        for (int i = 3; i <= 36; i++) {
            due("sign number " + i, x.sign(65), i);
        }
        due("acts", x.house(0), 36);
        due("one too many", x.sign(65), -9);
        due("one too many again", x.sign(0), -9);
        dueOf("exception ahead of -9", () -> x.sign(256), ARGUMENT);
        due("length", x.draftLength(), 36);
        due("acts then", x.house(0), 36);
        due("refusals", x.house(1), 2);
        for (int code = 0; code < 256; code++) {
            x.cut(1);
            x.sign(code);
            due("sign " + code, (int) x.draft().charAt(35), code);
            if (x.house(0) > 480) {
                break;
            }
        }
        Twinreaders y = new Twinreaders();
        for (int code = 200; code < 256; code++) {
            y.sign(code);
            due("sign " + code, (int) y.draft().charAt(0), code);
            y.cut(1);
        }
    }

    private static void pieces() {
        promise = "promise 3";
        String[] texts = {"ab", "x1_", "007", "-5", "\"a b\"", "\"", "//", "/*", "*/", "\n", " ", "-", "\"\"",
            "z9 - 12", "/*a*/", "Q\"//\""};
        for (int piece = 0; piece < 16; piece++) {
            Twinreaders x = new Twinreaders();
            x.sign(33);
            due("lay " + piece, x.lay(piece), 1 + texts[piece].length());
            due("its signs", x.draft(), "!" + texts[piece]);
            due("acts", x.house(0), 2);
        }
        Twinreaders x = new Twinreaders();
        for (int bad : new int[] {-1, 16, MAX, MIN}) {
            dueOf("lay " + bad, () -> x.lay(bad), ARGUMENT);
        }
        for (int i = 0; i < 17; i++) {
            x.lay(0);
        }
        due("3 to 34", x.lay(1), -9);
        due("5 to 34", x.lay(14), -9);
        due("length is as it was", x.draftLength(), 34);
        due("2 to 34", x.lay(6), 36);
        due("1 to 36", x.lay(10), -9);
        dueOf("exception ahead of -9", () -> x.lay(16), ARGUMENT);
        due("draft", x.draft(), "abababababababababababababababababab".substring(0, 34) + "//");
        due("acts", x.house(0), 18);
        due("refusals", x.house(1), 3);
    }

    private static void cuts() {
        promise = "promise 4";
        Twinreaders x = new Twinreaders();
        due("cut(0) of none", x.cut(0), 0);
        due("cut(1) of none", x.cut(1), -9);
        type(x, "abcdef");
        due("cut(7)", x.cut(7), -9);
        due("cut(36)", x.cut(36), -9);
        due("draft", x.draft(), "abcdef");
        due("cut(2)", x.cut(2), 4);
        due("draft then", x.draft(), "abcd");
        due("sign behind", x.sign(122), 5);
        due("draft behind", x.draft(), "abcdz");
        due("cut(5)", x.cut(5), 0);
        for (int bad : new int[] {-1, 37, MAX, MIN}) {
            dueOf("cut " + bad, () -> x.cut(bad), ARGUMENT);
        }
        due("refusals", x.house(1), 3);
        due("acts", x.house(0), 1 + 1 + 6 + 1 + 1 + 1);
        for (int i = 0; i < 36; i++) {
            x.sign(48);
        }
        due("cut(36) of 36", x.cut(36), 0);
    }

    private static void prints() {
        promise = "promise 5";
        Twinreaders x = new Twinreaders();
        due("print() of none", x.print(), 1);
        type(x, "abc");
        due("print()", x.print(), 2);
        due("draft stays", x.draft(), "abc");
        due("print() once more", x.print(), 3);
        x.openWhole(0);
        x.sign(100);
        due("openWhole", x.span(0), 3);
        due("print never changes", x.restText(0, 0), "abc");
        x.cut(4);
        due("print never changes by cut()", x.restText(0, 0), "abc");
        due("newest one", x.openWhole(1), 3);
        due("print 4", x.print(), 4);
        due("newest one then", x.openWhole(1), 0);
        due("the other keeps its own", x.restText(0, 0), "abc");
        due("its number", x.printOf(0), 3);
        Twinreaders y = new Twinreaders();
        for (int i = 1; i <= 400; i++) {
            due("print", y.print(), i);
        }
        due("acts", y.house(0), 400);
    }

    private static void drafts() {
        promise = "promises 6, 7";
        Twinreaders x = new Twinreaders();
        x.lay(13);
        due("draft", x.draft(), "z9 - 12");
        due("draftLength", x.draftLength(), 7);
        due("acts", x.house(0), 1);
    }

    private static void opens() {
        promise = "promise 8";
        Twinreaders x = new Twinreaders();
        due("open(0, 0, 0) of print 0", x.open(0, 0, 0), 0);
        due("open(0, 1, 0) of print 0", x.open(0, 1, 0), -9);
        due("open(0, 0, MAX) of print 0", x.open(0, 0, MAX), 0);
        type(x, "abcdef");
        x.print();
        due("open(3, 2, 3)", x.open(3, 2, 3), 3);
        due("span", x.restText(3, 0), "cde");
        due("open(0, 4, 3)", x.open(0, 4, 3), 2);
        due("span", x.restText(0, 4), "ef");
        due("open(0, 6, 3)", x.open(0, 6, 3), 0);
        due("begin", x.begin(0), 6);
        due("open(1, 1, MAX - 1)", x.open(1, 1, MAX - 1), 5);
        String was = state(x, 1);
        due("open(1, 1, MAX)", x.open(1, 1, MAX), -9);
        due("open(1, 7, 0)", x.open(1, 7, 0), -9);
        due("open(1, -1, 2)", x.open(1, -1, 2), -9);
        due("open(1, 2, -1)", x.open(1, 2, -1), -9);
        due("open(1, MIN, MIN)", x.open(1, MIN, MIN), -9);
        due("open(1, MAX, MAX)", x.open(1, MAX, MAX), -9);
        due("state", state(x, 1), was);
        due("refusals", x.house(1), 7);
        x.nextWord(3, 0);
        x.open(3, 1, 2);
        due("opened", state(x, 3), "1:1+2 0/0 0@0^0<>");
        badReaders(x, "open", r -> x.open(r, 0, 0));
        badReaders(x, "open ahead of -9", r -> x.open(r, -1, 0));
    }

    private static void opensWhole() {
        promise = "promise 9";
        Twinreaders x = on("abc d");
        x.nextWord(2, 0);
        x.nextWord(5, 0);
        due("openWhole(2)", x.openWhole(2), 5);
        due("openWhole(5)", x.openWhole(5), 5);
        due("state", state(x, 2), "1:0+5 0/0 0@0^0<>");
        due("state", state(x, 5), "1:0+5 0/0 0@0^0<>");
        badReaders(x, "openWhole", r -> x.openWhole(r));
    }

    private static void opensAgain() {
        promise = "promise 10";
        Twinreaders x = on("abc def");
        x.open(4, 2, 4);
        x.nextWord(4, 0);
        x.nextWord(4, 0);
        due("state", state(x, 4), "1:2+4 4/4 1@2^1<de>");
        x.cut(7);
        x.print();
        due("again(4)", x.again(4), 4);
        due("state then", state(x, 4), "1:2+4 0/0 0@0^0<>");
        due("again(0)", x.again(0), 7);
        due("again twice", x.again(0), 7);
        due("print stays", x.printOf(0), 1);
        badReaders(x, "again", r -> x.again(r));
    }

    private static void copies() {
        promise = "promise 11";
        Twinreaders x = on("abc def");
        x.open(3, 1, 5);
        x.nextWord(3, 0);
        due("copy to text", x.copy(3, 4), 2);
        due("copy to row", x.copy(3, 1), 2);
        due("taken", state(x, 4), state(x, 3));
        due("taken", state(x, 1), "1:1+5 2/2 1@0^0<bc>");
        x.read(3);
        due("own ways", x.place(4), 2);
        x.skip(3, -2);
        due("place less than mark", state(x, 3), "1:1+5 1/2 1@0^0<bc>");
        String was = state(x, 0);
        due("copy(3, 0)", x.copy(3, 0), -9);
        due("copy(3, 2)", x.copy(3, 2), -9);
        due("nothing changed", state(x, 0), was);
        due("refusals", x.house(1), 2);
        due("copy(3, 5)", x.copy(3, 5), 1);
        due("copy(3, 3)", x.copy(3, 3), 1);
        due("copy(1, 1)", x.copy(1, 1), 2);
        due("5 is a text reader still", x.skip(5, -1), -1);
        due("1 is a row reader still", x.skip(1, -1), 0);
        due("row to text", x.copy(1, 5), 2);
        due("a text reader still", x.skip(5, -1), -1);
        due("a text reader's mark", x.mark(5, -1), -9);
        due("text to row, at its mark", x.copy(4, 0), 2);
        due("a row reader still", x.mark(0, -1), 2);
        type(x, "  xy");
        x.print();
        x.open(4, 1, 3);
        x.nextWord(4, 0);
        due("another print", x.copy(4, 2), 3);
        due("another print", state(x, 2), "2:1+3 3/3 1@1^1<xy>");
        due("its signs", x.signAt(2, 1), 120);
        badReaders(x, "copy", r -> x.copy(r, 0));
        badReaders(x, "copy into", r -> x.copy(0, r));
        badReaders(x, "copy of -9", r -> x.copy(3, r));
    }

    private static void reads() {
        promise = "promise 12";
        Twinreaders x = on("a\u0000\u00ff");
        for (int reader = 0; reader < 6; reader++) {
            due("read", x.read(reader), 97);
            due("read", x.read(reader), 0);
            due("place", x.place(reader), 2);
            due("read", x.read(reader), 255);
            due("read", x.read(reader), -1);
            due("read", x.read(reader), -1);
            due("place", x.place(reader), 3);
            due("mark", x.marked(reader), 0);
        }
        due("acts", x.house(0), 4 + 1 + 6 + 30);
        x.open(0, 1, 1);
        due("read of a span", x.read(0), 0);
        due("read at its end", x.read(0), -1);
        badReaders(x, "read", r -> x.read(r));
    }

    private static void readsIntoTray() {
        promise = "promise 13";
        for (int reader = 0; reader < 6; reader++) {
            int own = reader;
            Twinreaders x = on("abcdefghij");
            due("readTray(2, 3)", x.readTray(own, 2, 3), 3);
            due("tray", x.trayText(), "..abc...");
            due("place", x.place(own), 3);
            due("readTray(8, 0)", x.readTray(own, 8, 0), 0);
            due("readTray(7, 1)", x.readTray(own, 7, 1), 1);
            due("tray", x.trayText(), "..abc..d");
            due("readTray(0, 8)", x.readTray(own, 0, 8), 6);
            due("tray", x.trayText(), "efghij.d");
            due("place", x.place(own), 10);
            due("mark", x.marked(own), 0);
            due("at the end", x.readTray(own, 1, 2), -1);
            due("at the end, 0", x.readTray(own, 1, 0), 0);
            due("tray", x.trayText(), "efghij.d");
            due("acts", x.house(0), 11 + 1 + 6 + 6);
            long before = x.digest();
            int[][] bad = {{-1, 0}, {9, 0}, {0, 9}, {0, -1}, {8, 1}, {5, 4}, {8, -1}, {MAX, MAX}, {MIN, MIN},
                {9, -1}, {0, MAX}, {7, MIN}, {MIN, MAX}, {-1, 9}};
            for (int[] b : bad) {
                dueOf("readTray " + Arrays.toString(b), () -> x.readTray(own, b[0], b[1]), INDEX);
            }
            due("nothing changed", x.digest(), before);
            badReaders(x, "readTray", r -> x.readTray(r, 0, 1));
        }
        Twinreaders x = on("ab");
        x.readTray(0, 0, 8);
        x.readTray(5, 4, 4);
        due("one tray for all", x.trayText(), "ab..ab..");
    }

    private static void skips() {
        promise = "promise 14";
        Twinreaders x = on("abcdefghijklmnop");
        for (int reader = 0; reader < 6; reader++) {
            boolean text = reader >= 3;
            due("skip(12)", x.skip(reader, 12), 12);
            due("skip(0)", x.skip(reader, 0), 0);
            due("skip(-2)", x.skip(reader, -2), text ? -2 : 0);
            due("place", x.place(reader), text ? 10 : 12);
            due("skip(-9)", x.skip(reader, -9), text ? -9 : 0);
            due("skip(-9) again", x.skip(reader, -9), text ? -1 : 0);
            due("skip(-9) at 0", x.skip(reader, -9), 0);
            due("skip(MIN)", x.skip(reader, MIN), 0);
            due("place", x.place(reader), text ? 0 : 12);
            due("skip(MAX)", x.skip(reader, MAX), text ? 16 : 4);
            due("skip at the end", x.skip(reader, 1), 0);
            due("skip back at the end", x.skip(reader, -1), 0);
            due("skip(MIN) at the end", x.skip(reader, MIN), 0);
            due("place", x.place(reader), 16);
            due("mark", x.marked(reader), 0);
        }
        due("all were acts", x.house(0), 16 + 1 + 1 + 6 + 66);
        due("none was refused", x.house(1), 0);
        x.openWhole(3);
        x.read(3);
        x.read(3);
        due("MIN of a text reader", x.skip(3, MIN), -2);
        badReaders(x, "skip", r -> x.skip(r, 1));
    }

    private static void marks() {
        promise = "promise 15";
        Twinreaders x = on("abcdef");
        for (int reader = 0; reader < 6; reader++) {
            x.skip(reader, 3);
            due("mark(0)", x.mark(reader, 0), 3);
            due("marked", x.marked(reader), 3);
            x.read(reader);
            due("marked stays", x.marked(reader), 3);
            due("mark(MAX)", x.mark(reader, MAX), 4);
            x.read(reader);
            due("mark(-1)", x.mark(reader, -1), reader < 3 ? 5 : -9);
            due("mark(MIN)", x.mark(reader, MIN), reader < 3 ? 5 : -9);
            due("marked", x.marked(reader), reader < 3 ? 5 : 4);
        }
        due("refusals", x.house(1), 6);
        due("acts", x.house(0), 7 + 1 + 6 + 6 * 5 + 6);
        badReaders(x, "mark", r -> x.mark(r, 0));
        badReaders(x, "mark ahead of -9", r -> x.mark(r, -1));
    }

    private static void resets() {
        promise = "promise 16";
        Twinreaders x = on("abcdef");
        for (int reader = 0; reader < 6; reader++) {
            x.skip(reader, 2);
            due("reset to 0", x.reset(reader), 0);
            due("place", x.place(reader), 0);
            x.skip(reader, 2);
            x.mark(reader, 1);
            x.skip(reader, 9);
            due("reset", x.reset(reader), 2);
            due("mark stays", x.marked(reader), 2);
            due("reset twice", x.reset(reader), 2);
        }
        x.skip(3, -1);
        due("reset goes on, too", x.reset(3), 2);
        due("read then", x.read(3), 99);
        x.open(1, 2, 3);
        x.read(1);
        due("reset in a span", x.reset(1), 0);
        due("read then", x.read(1), 99);
        badReaders(x, "reset", r -> x.reset(r));
    }

    private static void readiness() {
        promise = "promise 17";
        Twinreaders x = on("a");
        for (int reader = 0; reader < 6; reader++) {
            int own = reader;
            due("ready", x.ready(own), true);
            x.read(own);
            long before = x.digest();
            dueOf("ready at the end", () -> x.ready(own), STATE);
            due("nothing changed", x.digest(), before);
        }
        badReaders(x, "ready", r -> x.ready(r));
        dueOf("ready of nothing", () -> new Twinreaders().ready(0), STATE);
        dueOf("ready, reader first", () -> new Twinreaders().ready(6), INDEX);
    }

    private static void looksAhead() {
        promise = "promise 18";
        Twinreaders x = on("a\u00ff");
        for (int reader = 0; reader < 6; reader++) {
            due("ahead", x.ahead(reader), 97);
            due("ahead again", x.ahead(reader), 97);
            due("place", x.place(reader), 0);
            x.read(reader);
            due("ahead", x.ahead(reader), 255);
            x.read(reader);
            due("ahead at the end", x.ahead(reader), -1);
        }
        x.open(0, 0, 1);
        x.read(0);
        due("ahead at the span's end", x.ahead(0), -1);
        badReaders(x, "ahead", r -> x.ahead(r));
    }

    private static void rests() {
        promise = "promise 19";
        Twinreaders x = on("abcde");
        x.open(4, 1, 3);
        due("rest", x.rest(4), 3);
        x.read(4);
        due("rest", x.rest(4), 2);
        due("rest goes back", x.place(4), 1);
        x.skip(4, 9);
        due("rest at the end", x.rest(4), 0);
        due("rest of all", x.rest(0), 5);
        badReaders(x, "rest", r -> x.rest(r));
    }

    private static void restTexts() {
        promise = "promise 20";
        String text = "abcdefghijklmnopqrstuvwxyz0123456789";
        Twinreaders x = on(text);
        for (int reader = 0; reader < 6; reader++) {
            x.skip(reader, reader);
            x.mark(reader, 1);
            x.read(reader);
            String was = state(x, reader);
            for (int size = 0; size <= 8; size++) {
                due("restText size " + size, x.restText(reader, size), text.substring(reader + 1));
            }
            due("goes back", state(x, reader), was);
            int own = reader;
            badSizes(x, "restText", s -> x.restText(own, s));
        }
        x.open(1, 3, 4);
        due("of a span", x.restText(1, 8), "defg");
        x.skip(1, 4);
        due("at the end", x.restText(1, 8), "");
        badReaders(x, "restText", r -> x.restText(r, 0));
        badReaders(x, "restText ahead of size", r -> x.restText(r, 9));
    }

    private static void signsAt() {
        promise = "promise 21";
        Twinreaders x = on("abcdef");
        x.open(2, 1, 3);
        x.read(2);
        due("signAt(0)", x.signAt(2, 0), 98);
        due("signAt(2)", x.signAt(2, 2), 100);
        due("signAt(3)", x.signAt(2, 3), -1);
        due("signAt(35)", x.signAt(2, 35), -1);
        long before = x.digest();
        for (int bad : new int[] {-1, 36, MAX, MIN}) {
            dueOf("signAt " + bad, () -> x.signAt(2, bad), INDEX);
        }
        due("nothing changed", x.digest(), before);
        badReaders(x, "signAt", r -> x.signAt(r, 0));
        Twinreaders y = on("abcdefghijklmnopqrstuvwxyz0123456789");
        due("signAt(35)", y.signAt(5, 35), 57);
    }

    private static void alikes() {
        promise = "promise 22";
        Twinreaders x = on("abcabcabd");
        due("same place", x.alike(0, 3), 9);
        x.skip(3, 3);
        due("3 on", x.alike(0, 3), 5);
        due("turned", x.alike(3, 0), 5);
        due("of itself", x.alike(3, 3), 6);
        x.skip(0, 1);
        due("none", x.alike(0, 3), 0);
        x.open(1, 0, 2);
        due("up to an end", x.alike(1, 3), 2);
        due("up to an end, turned", x.alike(3, 1), 2);
        x.skip(1, 2);
        due("at an end", x.alike(1, 3), 0);
        due("goes back", x.place(3), 3);
        due("goes back", x.place(0), 1);
        badReaders(x, "alike", r -> x.alike(r, 0));
        badReaders(x, "alike", r -> x.alike(0, r));
    }

    private static void placesAndMarks() {
        promise = "promises 23, 24";
        Twinreaders x = on("abcdef");
        x.skip(0, 2);
        x.mark(0, 0);
        x.skip(0, 2);
        due("place", x.place(0), 4);
        due("marked", x.marked(0), 2);
        x.skip(4, 5);
        x.mark(4, 0);
        x.skip(4, -3);
        due("place", x.place(4), 2);
        due("marked", x.marked(4), 5);
        badReaders(x, "place", r -> x.place(r));
        badReaders(x, "marked", r -> x.marked(r));
    }

    private static void spans() {
        promise = "promises 25 to 27";
        Twinreaders x = on("abcdef");
        x.open(5, 4, 9);
        x.read(5);
        due("begin", x.begin(5), 4);
        due("span", x.span(5), 2);
        due("printOf", x.printOf(5), 1);
        x.print();
        due("printOf stays", x.printOf(5), 1);
        x.openWhole(5);
        due("printOf", x.printOf(5), 2);
        badReaders(x, "begin", r -> x.begin(r));
        badReaders(x, "span", r -> x.span(r));
        badReaders(x, "printOf", r -> x.printOf(r));
    }

    private static void trays() {
        promise = "promises 28, 29";
        Twinreaders x = on("\u0000\u00ffcdefgh");
        x.readTray(1, 0, 8);
        due("tray(0)", x.tray(0), 0);
        due("tray(1)", x.tray(1), 255);
        due("tray(7)", x.tray(7), 104);
        due("trayText", x.trayText(), "\u0000\u00ffcdefgh");
        for (int bad : new int[] {-1, 8, MAX, MIN}) {
            dueOf("tray " + bad, () -> x.tray(bad), INDEX);
        }
    }

    private static void nextWords() {
        promise = "promise 30";
        for (int reader = 0; reader < 6; reader++) {
            for (int size = 0; size <= 8; size++) {
                Twinreaders x = on(" ab\n 12-5 \"c\" // d \n;  ");
                String head = "1:0+23 ";
                due("1st", x.nextWord(reader, size), 1);
                due("1st", state(x, reader), head + "3/3 1@1^1<ab>");
                due("2nd", x.nextWord(reader, size), 2);
                due("2nd", state(x, reader), head + "7/7 2@5^2<12>");
                due("3rd", x.nextWord(reader, size), 2);
                due("3rd", state(x, reader), head + "9/9 2@7^0<-5>");
                due("4th", x.nextWord(reader, size), 3);
                due("4th", state(x, reader), head + "13/13 3@10^1<\"c\">");
                due("5th", x.nextWord(reader, size), 4);
                due("5th", state(x, reader), head + "19/19 4@14^1<// d >");
                due("6th", x.nextWord(reader, size), 5);
                due("6th", state(x, reader), head + "21/21 5@20^1<;>");
                due("words so far", x.house(2), 6);
                due("none", x.nextWord(reader, size), 0);
                due("none", state(x, reader), head + "23/23 0@23^2<>");
                due("none again", x.nextWord(reader, size), 0);
                due("none again", state(x, reader), head + "23/23 0@23^0<>");
                due("words read", x.house(2), 6);
                due("acts", x.house(0), 24 + 1 + 6 + 8);
            }
        }
        Twinreaders x = on("ab cd");
        badSizes(x, "nextWord", s -> x.nextWord(0, s));
        badReaders(x, "nextWord", r -> x.nextWord(r, 0));
        badReaders(x, "nextWord ahead of size", r -> x.nextWord(r, 9));
    }

    private static void nextWordsFromInside() {
        promise = "promise 30, from a place inside";
        Twinreaders x = on("ab\"c d\" e");
        x.read(4);
        due("b", x.nextWord(4, 3), 1);
        due("b", state(x, 4), "1:0+9 2/2 1@1^0<b>");
        x.read(4);
        due("c", x.nextWord(4, 3), 1);
        due("c", state(x, 4), "1:0+9 4/4 1@3^0<c>");
        x.skip(4, 2);
        due("open then", x.nextWord(4, 3), 3);
        due("open then", state(x, 4), "1:0+9 9/9 3@6^0<\" e>");
        x.open(4, 1, 5);
        x.skip(4, 2);
        due("in a span", x.nextWord(4, 3), 1);
        due("in a span", state(x, 4), "1:1+5 3/3 1@2^0<c>");
        due("back", x.skip(4, -3), -3);
        due("last word stays", x.lastText(4), "c");
        due("mark stays", x.reset(4), 3);
    }

    private static void toEnds() {
        promise = "promise 31";
        for (int reader = 0; reader < 6; reader++) {
            for (int size = 0; size <= 8; size++) {
                Twinreaders x = on("a 1 \"b\"/**/;  ");
                due("toEnd", x.toEnd(reader, size), 5);
                due("state", state(x, reader), "1:0+14 14/14 0@14^2<>");
                due("words read", x.house(2), 5);
                due("acts", x.house(0), 14 + 1 + 6 + 1 + 1);
                due("again", x.toEnd(reader, size), 0);
                due("state again", state(x, reader), "1:0+14 14/14 0@14^0<>");
                x.again(reader);
                x.skip(reader, 1);
                x.nextWord(reader, size);
                due("from inside", x.toEnd(reader, size), 3);
                due("words read", x.house(2), 9);
            }
        }
        Twinreaders x = on("   ");
        due("blanks only", x.toEnd(0, 8), 0);
        due("blanks only", state(x, 0), "1:0+3 3/3 0@3^3<>");
        Twinreaders y = on(";;;;;;;;;;;;;;;;;;;;;;;;;;;;;;;;;;;;");
        due("36 words", y.toEnd(3, 5), 36);
        due("36 words", state(y, 3), "1:0+36 36/36 0@36^0<>");
        badSizes(y, "toEnd", s -> y.toEnd(0, s));
        badReaders(y, "toEnd", r -> y.toEnd(r, 0));
        badReaders(y, "toEnd ahead of size", r -> y.toEnd(r, -1));
    }

    private static void lastWords() {
        promise = "promises 32 to 35";
        Twinreaders x = on("  abc 7");
        x.nextWord(1, 0);
        due("lastKind", x.lastKind(1), 1);
        due("lastText", x.lastText(1), "abc");
        due("lastFrom", x.lastFrom(1), 2);
        due("lastGap", x.lastGap(1), 2);
        x.skip(1, 2);
        x.print();
        due("they stay", x.lastKind(1) + x.lastText(1) + x.lastFrom(1) + x.lastGap(1), "1abc22");
        due("others have none", x.lastKind(2) + x.lastText(2) + x.lastFrom(2) + x.lastGap(2), "000");
        badReaders(x, "lastKind", r -> x.lastKind(r));
        badReaders(x, "lastText", r -> x.lastText(r));
        badReaders(x, "lastFrom", r -> x.lastFrom(r));
        badReaders(x, "lastGap", r -> x.lastGap(r));
    }

    /** The kinds of the words, and each word in brackets. */
    private static String wordsOf(String text) {
        Twinreaders x = on(text);
        StringBuilder all = new StringBuilder(x.kinds(0, 0, 0));
        for (int i = 0; i < x.words(0, 0, 0); i++) {
            all.append('[').append(x.wordText(0, i, 0, 0)).append(']');
        }
        return all.append(x.isOpen(0, 0, 0) ? "open" : "").toString();
    }

    private static void dueWords(String text, String want) {
        due("words of " + text, wordsOf(text), want);
    }

    private static void wordsOfSpans() {
        promise = "promises 36, 37";
        Twinreaders x = on(" a 1\"b\"//c\n+  ");
        x.nextWord(4, 0);
        x.skip(4, -1);
        String was = state(x, 4);
        due("words", x.words(4, 1, 2), 5);
        due("kinds", x.kinds(4, 1, 2), "12345");
        due("place and mark stay", state(x, 4), was);
        due("house(2) stays", x.house(2), 1);
        x.open(4, 5, 2);
        due("words of a span", x.words(4, 0, 0), 2);
        due("kinds of a span", x.kinds(4, 0, 0), "13");
        x.open(4, 12, 2);
        due("words of blanks", x.words(4, 0, 0), 0);
        due("kinds of blanks", x.kinds(4, 0, 0), "");
        badReaders(x, "words", r -> x.words(r, 0, 0));
        badReaders(x, "words ahead of door", r -> x.words(r, 2, 9));
        badDoors(x, "words", d -> x.words(0, d, 0));
        badSizes(x, "words", s -> x.words(0, 0, s));
        badReaders(x, "kinds", r -> x.kinds(r, 0, 0));
        badReaders(x, "kinds ahead of door", r -> x.kinds(r, 2, 9));
        badDoors(x, "kinds", d -> x.kinds(0, d, 0));
        badSizes(x, "kinds", s -> x.kinds(0, 0, s));
        due("36 words", on(";;;;;;;;;;;;;;;;;;;;;;;;;;;;;;;;;;;;").words(0, 1, 8), 36);
    }

    private static void names() {
        promise = "kind 1";
        dueWords("abc", "1[abc]");
        dueWords("_a9Z_z", "1[_a9Z_z]");
        dueWords("a-b", "151[a][-][b]");
        dueWords("a\"b\"", "13[a][\"b\"]");
        dueWords("AZ@[`{az/:", "15555155[AZ][@][[][`][{][az][/][:]");
        dueWords("a\u00e9b", "151[a][\u00e9][b]");
        dueWords("a0123456789", "1[a0123456789]");
    }

    private static void numbers() {
        promise = "kind 2";
        dueWords("09", "2[09]");
        dueWords("9a", "21[9][a]");
        dueWords("-5", "2[-5]");
        dueWords("--5", "52[-][-5]");
        dueWords("- 5", "52[-][5]");
        dueWords("-", "5[-]");
        dueWords("-a", "51[-][a]");
        dueWords("1-2", "22[1][-2]");
        dueWords("a1-2-", "125[a1][-2][-]");
        dueWords("/0:9", "5252[/][0][:][9]");
        dueWords("-/-:", "5555[-][/][-][:]");
    }

    private static void quotedOnes() {
        promise = "kind 3";
        dueWords("\"\"", "3[\"\"]");
        dueWords("\"", "3[\"]open");
        dueWords("\"\"\"", "3[\"\"\"]open");
        dueWords("\"\"\"\"", "3[\"\"\"\"]");
        dueWords("\"a\"\"b\"c", "31[\"a\"\"b\"][c]");
        dueWords("\"a\" \"b\"", "33[\"a\"][\"b\"]");
        dueWords("\"a\nb", "3[\"a\nb]open");
        dueWords("\"//\"a", "31[\"//\"][a]");
        dueWords("\"/*\"a", "31[\"/*\"][a]");
        dueWords("\"a\"\"", "3[\"a\"\"]open");
        dueWords("\"a \"", "3[\"a \"]");
        dueWords("\"a ", "3[\"a ]open");
    }

    private static void remarks() {
        promise = "kind 4";
        dueWords("//", "4[//]");
        dueWords("///", "4[///]");
        dueWords("//a\nb", "41[//a][b]");
        dueWords("//\n", "4[//]");
        dueWords("//a\rb \n", "4[//a\rb ]");
        dueWords("//\"\n\"", "43[//\"][\"]open");
        dueWords("/*", "4[/*]open");
        dueWords("/*/", "4[/*/]open");
        dueWords("/*/ */", "4[/*/ */]");
        dueWords("/**/", "4[/**/]");
        dueWords("/**/a", "41[/**/][a]");
        dueWords("/***/", "4[/***/]");
        dueWords("/* * / ", "4[/* * / ]open");
        dueWords("/*a\n*/b", "41[/*a\n*/][b]");
        dueWords("/*//*/b", "41[/*//*/][b]");
        dueWords("/**", "4[/**]open");
        dueWords("/*/*/a", "41[/*/*/][a]");
        dueWords("//*a*/b", "4[//*a*/b]");
        dueWords("/ /", "55[/][/]");
        dueWords("/ *", "55[/][*]");
        dueWords("*//", "54[*][//]");
        dueWords("*/*", "54[*][/*]open");
        dueWords("/", "5[/]");
        dueWords("/a", "51[/][a]");
    }

    private static void singles() {
        promise = "kind 5";
        dueWords("*/", "55[*][/]");
        dueWords("!~\u007f\u00ff", "5555[!][~][\u007f][\u00ff]");
        dueWords("..", "55[.][.]");
        for (int code = 33; code < 256; code++) {
            boolean letter = code >= 65 && code <= 90 || code >= 97 && code <= 122 || code == 95;
            int kind = letter ? 1 : code >= 48 && code <= 57 ? 2 : code == 34 ? 3 : 5;
            due("kind of " + code, on(String.valueOf((char) code)).kinds(3, 1, 1), String.valueOf(kind));
        }
    }

    private static void blanks() {
        promise = "blanks";
        for (int code = 0; code <= 32; code++) {
            Twinreaders x = on((char) code + "a" + (char) code);
            due("words with " + code, x.kinds(0, 0, 0) + x.wordFrom(0, 0, 0, 0) + x.wordText(0, 0, 0, 0), "11a");
            x.toEnd(0, 0);
            due("gap of " + code, x.lastGap(0), 1);
        }
        dueWords("", "");
        dueWords("  \n ", "");
        dueWords(" !", "5[!]");
    }

    private static void wordsAt() {
        promise = "promises 38 to 41";
        Twinreaders x = on(" ab \"c\"\"d\" -12 007 \"e");
        due("wordFrom(0)", x.wordFrom(0, 0, 0, 0), 1);
        due("wordFrom(1)", x.wordFrom(0, 1, 0, 0), 4);
        due("wordFrom(4)", x.wordFrom(0, 4, 0, 0), 19);
        due("wordFrom(5)", x.wordFrom(0, 5, 0, 0), -1);
        due("wordFrom(35)", x.wordFrom(0, 35, 0, 0), -1);
        due("wordText(1)", x.wordText(0, 1, 0, 0), "\"c\"\"d\"");
        due("wordText(4)", x.wordText(0, 4, 0, 0), "\"e");
        due("wordText(5)", x.wordText(0, 5, 0, 0), "");
        due("wordText(35)", x.wordText(0, 35, 0, 0), "");
        due("wordValue(0)", x.wordValue(0, 0, 0, 0), 0);
        due("wordValue(1)", x.wordValue(0, 1, 0, 0), 0);
        due("wordValue(2)", x.wordValue(0, 2, 0, 0), -12);
        due("wordValue(3)", x.wordValue(0, 3, 0, 0), 7);
        due("wordValue(5)", x.wordValue(0, 5, 0, 0), 0);
        due("inside(0)", x.inside(0, 0, 0, 0), "");
        due("inside(1)", x.inside(0, 1, 0, 0), "c\"d");
        due("inside(4)", x.inside(0, 4, 0, 0), "e");
        due("inside(5)", x.inside(0, 5, 0, 0), "");
        x.open(5, 3, 9);
        due("wordFrom of a span", x.wordFrom(5, 0, 1, 3), 1);
        due("wordText of a span", x.wordText(5, 0, 1, 3), "\"c\"\"d\"");
        values();
        insides();
        wrongInputsOfWordsAt(x);
    }

    private static void values() {
        String[][] all = {{"0", "0"}, {"-0", "0"}, {"123456789", "123456789"}, {"1234567890", "234567890"},
            {"-1234567890", "-234567890"}, {"-123456789", "-123456789"}, {"-9", "-9"}, {"99999999999", "999999999"},
            {"9999999991", "999999991"}, {"1000000000", "0"}, {"12345678901234567890123456789012345", "789012345"},
            {"-99999999999999999999", "-999999999"}, {"9000000001", "1"}};
        for (String[] one : all) {
            due("value of " + one[0], on(one[0]).wordValue(2, 0, 1, 4), Integer.parseInt(one[1]));
        }
    }

    private static void insides() {
        String[][] all = {{"\"\"", ""}, {"\"", ""}, {"\"\"\"", "\""}, {"\"\"\"\"", "\""}, {"\"\"\"\"\"\"", "\"\""},
            {"\"a", "a"}, {"\"a\"", "a"}, {"\"a\"\"", "a\""}, {"\"a\"\"\"", "a\""}, {"\" \n", " \n"},
            {"\"\"\"\"\"\"\"", "\"\"\""}, {"\"\"\"a\"\"\"", "\"a\""}, {"\"a\"\"b\"\"\"\"c\"", "a\"b\"\"c"}};
        for (String[] one : all) {
            due("inside of " + one[0], on(one[0]).inside(4, 0, 0, 2), one[1]);
        }
    }

    private static void wrongInputsOfWordsAt(Twinreaders x) {
        badReaders(x, "wordFrom", r -> x.wordFrom(r, 0, 0, 0));
        badReaders(x, "wordText", r -> x.wordText(r, 0, 0, 0));
        badReaders(x, "wordValue", r -> x.wordValue(r, 0, 0, 0));
        badReaders(x, "inside", r -> x.inside(r, 0, 0, 0));
        long before = x.digest();
        for (int which : new int[] {-1, 36, MAX, MIN}) {
            for (int door : new int[] {0, 2}) {
                for (int size : new int[] {0, 9}) {
                    dueOf("wordFrom", () -> x.wordFrom(0, which, door, size), INDEX);
                    dueOf("wordText", () -> x.wordText(0, which, door, size), INDEX);
                    dueOf("wordValue", () -> x.wordValue(0, which, door, size), INDEX);
                    dueOf("inside", () -> x.inside(0, which, door, size), INDEX);
                    dueOf("wordFrom, reader", () -> x.wordFrom(6, 0, door, size), INDEX);
                    dueOf("wordText, reader", () -> x.wordText(6, 0, door, size), INDEX);
                    dueOf("wordValue, reader", () -> x.wordValue(6, 0, door, size), INDEX);
                    dueOf("inside, reader", () -> x.inside(6, 0, door, size), INDEX);
                }
            }
        }
        due("nothing changed", x.digest(), before);
        badDoors(x, "wordFrom", d -> x.wordFrom(0, 35, d, 0));
        badDoors(x, "wordText", d -> x.wordText(0, 0, d, 0));
        badDoors(x, "wordValue", d -> x.wordValue(0, 0, d, 0));
        badDoors(x, "inside", d -> x.inside(0, 0, d, 0));
        badSizes(x, "wordFrom", s -> x.wordFrom(0, 35, 1, s));
        badSizes(x, "wordText", s -> x.wordText(0, 0, 1, s));
        badSizes(x, "wordValue", s -> x.wordValue(0, 0, 1, s));
        badSizes(x, "inside", s -> x.inside(0, 0, 1, s));
    }

    private static void openOnes() {
        promise = "promise 42";
        due("no words", on("  ").isOpen(0, 0, 0), false);
        due("quoted", on("a \"b").isOpen(0, 0, 0), true);
        due("quoted, ended", on("a \"b\"").isOpen(0, 0, 0), false);
        due("remark", on("a /*b").isOpen(0, 1, 4), true);
        due("remark, ended", on("a /*b*/").isOpen(0, 1, 4), false);
        due("line remark", on("a //b").isOpen(0, 1, 4), false);
        Twinreaders x = on("\"a\"");
        x.open(4, 0, 2);
        due("a span that cuts the end off", x.isOpen(4, 0, 1), true);
        x.skip(0, 2);
        due("not from the place", x.isOpen(0, 0, 1), false);
        badReaders(x, "isOpen", r -> x.isOpen(r, 0, 0));
        badReaders(x, "isOpen ahead of door", r -> x.isOpen(r, 2, 9));
        badDoors(x, "isOpen", d -> x.isOpen(0, d, 0));
        badSizes(x, "isOpen", s -> x.isOpen(0, 0, s));
    }

    private static void joinedOnes() {
        promise = "promise 43";
        String text = "  a \n 1\"b \" /* c*/ // d\n ;\u0000\u00ff ";
        Twinreaders x = on(text);
        x.nextWord(3, 0);
        due("joined", x.joined(3, 0, 0), text);
        x.open(3, 2, 9);
        due("joined of a span", x.joined(3, 1, 4), text.substring(2, 11));
        due("joined of blanks", on(" \n ").joined(0, 0, 1), " \n ");
        due("joined of none", new Twinreaders().joined(0, 0, 1), "");
        badReaders(x, "joined", r -> x.joined(r, 0, 0));
        badReaders(x, "joined ahead of door", r -> x.joined(r, 2, 9));
        badDoors(x, "joined", d -> x.joined(0, d, 0));
        badSizes(x, "joined", s -> x.joined(0, 0, s));
    }

    private static boolean same(String one, String two) {
        Twinreaders x = on(one);
        type(x, two);
        x.print();
        x.openWhole(4);
        boolean there = x.sameWords(1, 4, 3);
        due("turned", x.sameWords(4, 1, 0), there);
        return there;
    }

    private static void sameOnes() {
        promise = "promise 44";
        due("alike", same("a 1 \"b\"", "a 1 \"b\""), true);
        due("gaps unlike", same("a 1;b ", "  a\n1 ;  b"), true);
        due("fewer", same("a b", "a b c"), false);
        due("another sign", same("a b c", "a d c"), false);
        due("longer", same("ab c", "abb c"), false);
        due("parted", same("ab", "a b"), false);
        due("both none", same("", "  "), true);
        due("none and one", same("", "a"), false);
        due("last one longer", same("a b", "a bc"), false);
        due("open and not", same("\"a", "\"a\""), false);
        Twinreaders x = on("ab ab");
        x.open(2, 0, 2);
        x.open(3, 2, 3);
        due("spans of one print", x.sameWords(2, 3, 8), true);
        x.toEnd(3, 0);
        due("place is of no matter", x.sameWords(2, 3, 8), true);
        due("with itself", x.sameWords(3, 3, 1), true);
        badReaders(x, "sameWords", r -> x.sameWords(r, 0, 0));
        badReaders(x, "sameWords", r -> x.sameWords(0, r, 0));
        badReaders(x, "sameWords ahead of size", r -> x.sameWords(0, r, 9));
        badReaders(x, "sameWords ahead of size", r -> x.sameWords(r, 0, 9));
        badSizes(x, "sameWords", s -> x.sameWords(0, 1, s));
    }

    private static void doorsAndSizes() {
        promise = "doors and sizes";
        String text = " a1 \"b\"\"c\"/*d*/-12345678901//e\n;\"f ";
        Twinreaders x = on(text);
        for (int reader = 0; reader < 6; reader++) {
            for (int door = 0; door < 2; door++) {
                for (int size = 0; size <= 8; size++) {
                    due("words", x.words(reader, door, size), 7);
                    due("kinds", x.kinds(reader, door, size), "1342453");
                    due("wordFrom", x.wordFrom(reader, 3, door, size), 15);
                    due("wordText", x.wordText(reader, 2, door, size), "/*d*/");
                    due("wordValue", x.wordValue(reader, 3, door, size), -345678901);
                    due("inside", x.inside(reader, 1, door, size), "b\"c");
                    due("isOpen", x.isOpen(reader, door, size), true);
                    due("joined", x.joined(reader, door, size), text);
                    due("sameWords", x.sameWords(reader, door, size), true);
                }
            }
        }
    }

    private static void houses() {
        promise = "promise 45";
        Twinreaders x = on("a b");
        for (int bad : new int[] {-1, 4, MAX, MIN}) {
            dueOf("house " + bad, () -> x.house(bad), ARGUMENT);
        }
        int acts = x.house(0);
        due("acts", acts, 3 + 1 + 1 + 6);
        Supplier<?>[] calls = {() -> x.sign(65), () -> x.lay(0), () -> x.cut(0), x::print, () -> x.open(0, 0, 1),
            () -> x.openWhole(0), () -> x.again(0), () -> x.copy(0, 0), () -> x.read(0), () -> x.readTray(0, 0, 0),
            () -> x.skip(0, 0), () -> x.mark(0, 0), () -> x.reset(0), () -> x.nextWord(0, 0), () -> x.toEnd(0, 0),
            () -> x.read(0), () -> x.readTray(0, 0, 1), () -> x.nextWord(0, 0), () -> x.toEnd(0, 0)};
        for (int i = 0; i < calls.length; i++) {
            calls[i].get();
            due("acts behind call " + i, x.house(0), acts + i + 1);
        }
        due("refusals", x.house(1), 0);
        due("words", x.house(2), 1);
        due("knocks", x.house(3), 0);
        x.again(3);
        acts = x.house(0);
        asksAll(x);
        due("what is asked is no act", x.house(0), acts);
        due("knocks are none of it", x.house(3), 0);
    }

    private static void asksAll(Twinreaders x) {
        long before = x.digest();
        x.draft();
        x.draftLength();
        x.ready(3);
        x.ahead(3);
        x.rest(3);
        x.restText(3, 3);
        x.signAt(3, 3);
        x.alike(3, 4);
        x.place(3);
        x.marked(3);
        x.begin(3);
        x.span(3);
        x.printOf(3);
        x.tray(3);
        x.trayText();
        x.lastKind(3);
        x.lastText(3);
        x.lastFrom(3);
        x.lastGap(3);
        x.words(3, 0, 0);
        x.kinds(3, 0, 0);
        x.wordFrom(3, 0, 0, 0);
        x.wordText(3, 0, 0, 0);
        x.wordValue(3, 0, 0, 0);
        x.inside(3, 0, 0, 0);
        x.isOpen(3, 0, 0);
        x.joined(3, 0, 0);
        x.sameWords(3, 4, 0);
        x.house(0);
        x.isSound();
        due("what is asked changes nothing", x.digest(), before);
    }

    private static void knocks() {
        promise = "promise 46";
        Twinreaders x = new Twinreaders();
        due("knock", x.knock(), 1);
        due("knock", x.knock(), 2);
        due("house(3)", x.house(3), 2);
        due("no act", x.house(0), 0);
        due("no refusal", x.house(1), 0);
    }

    private static void soundAndDigest() {
        promise = "promises 47, 48";
        Twinreaders x = new Twinreaders();
        due("isSound", x.isSound(), true);
        long[] fresh = {0, 0, 0, 0, 0, -1, 0, 0, 0, 0, 0, 0, 0};
        long d = add(8003, 0);
        for (int reader = 0; reader < 6; reader++) {
            d = add(d, fresh);
        }
        d = add(d, 46, 46, 46, 46, 46, 46, 46, 46);
        d = add(d, 0, 0, 0, 0, 1);
        due("digest of a new object", x.digest(), d);

        x.lay(4);
        x.print();
        x.open(0, 0, 4);
        x.open(4, 1, 4);
        x.nextWord(4, 1);
        x.read(4);
        x.readTray(0, 7, 1);
        x.cut(3);
        x.cut(9);
        x.knock();
        x.knock();
        x.knock();
        due("isSound", x.isSound(), true);
        d = add(8003, 2, 34, 97);
        d = add(d, 1, 0, 4, 1, 0, 97, 3, 0, 0, 0, 0, 34, 97, 32, 98, 1, 3, 0, 1);
        d = add(add(add(d, fresh), fresh), fresh);
        d = add(d, 1, 1, 4, 2, 1, 98, 2, 1, 0, 0, 1, 97, 32, 98, 34, 3, 1, 0, 1, 2, 3, 3, 1);
        d = add(d, fresh);
        d = add(d, 46, 46, 46, 46, 46, 46, 46, 34, 8, 1, 1, 3, 1);
        due("digest", x.digest(), d);
        due("digest again", x.digest(), d);
    }

    private static long add(long start, long... values) {
        long d = start;
        for (long v : values) {
            d = d * 31 + v;
        }
        return d;
    }

    private static void refusalsChangeNothing() {
        promise = "refusals";
        Twinreaders x = on("abcdefghijklmnopqrstuvwxyz0123456789");
        x.nextWord(4, 0);
        x.skip(4, 0);
        x.again(3);
        x.skip(3, 4);
        x.mark(3, 0);
        x.skip(3, -2);
        x.readTray(3, 3, 2);
        x.skip(3, -1);
        Supplier<?>[] calls = {() -> x.sign(65), () -> x.lay(10), () -> x.open(4, 37, 0), () -> x.open(3, 0, -1),
            () -> x.open(0, -1, 0), () -> x.copy(3, 0), () -> x.mark(4, -1), () -> x.mark(3, MIN)};
        String was = all(x);
        for (int i = 0; i < calls.length; i++) {
            due("refusal " + i, calls[i].get(), -9);
            due("state behind " + i, all(x), was);
            due("refusals", x.house(1), i + 1);
        }
        x.cut(36);
        due("cut(1)", x.cut(1), -9);
        due("refusals", x.house(1), calls.length + 1);
    }

    private static void exceptionsChangeNothing() {
        promise = "exceptions";
        Twinreaders x = on("ab \"c");
        x.nextWord(2, 0);
        x.readTray(5, 2, 4);
        long before = x.digest();
        Supplier<?>[] calls = {() -> x.sign(256), () -> x.lay(16), () -> x.cut(37), () -> x.open(6, 0, 1),
            () -> x.openWhole(-1), () -> x.again(6), () -> x.copy(2, 6), () -> x.copy(-1, 2), () -> x.read(6),
            () -> x.readTray(2, 5, 4), () -> x.skip(6, 1), () -> x.mark(6, 1), () -> x.reset(6),
            () -> x.nextWord(2, 9), () -> x.toEnd(2, -1), () -> x.house(4), () -> x.tray(8)};
        for (int i = 0; i < calls.length; i++) {
            Supplier<?> call = calls[i];
            due("throws " + i, String.valueOf(of(call::get)).startsWith("throws.I"), true);
            due("state behind " + i, x.digest(), before);
        }
    }

    private static String all(Twinreaders x) {
        StringBuilder text = new StringBuilder(x.draft()).append(x.trayText());
        for (int reader = 0; reader < 6; reader++) {
            text.append(state(x, reader)).append(x.restText(reader, 0));
        }
        return text.append(x.house(0)).append(x.house(2)).append(x.house(3)).toString();
    }
}
