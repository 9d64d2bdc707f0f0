import java.util.function.Function;
import java.util.function.Supplier;

/** What the tests of the edges share: a sentence of the document is told ahead of the calls that it speaks of. */
final class Due {
    static final String INDEX = "throws.IndexOutOfBoundsException";
    static final String ARGUMENT = "throws.IllegalArgumentException";
    static final String STATE = "throws.IllegalStateException";
    static final int MAX = Integer.MAX_VALUE;
    static final int MIN = Integer.MIN_VALUE;

    private static String sentence = "";
    private static int sentences = 0;
    private static int wrong = 0;

    private Due() {
    }

    /** Runs the test of one sentence; what it throws is a fault, too. */
    static void sentence(String words, Runnable test) {
        sentence = words;
        sentences++;
        try {
            test.run();
        } catch (RuntimeException | StackOverflowError e) {
            due("the test", "threw " + e, "to its end");
        }
    }

    static void due(String call, Object got, Object want) {
        if (!want.equals(got)) {
            wrong++;
            if (wrong <= 40) {
                System.out.println(sentence + ": " + call + " answered " + got + ", due is " + want);
            }
        }
    }

    /** Tells how it went, and ends the program with 1 if an answer was not as due. */
    static void end() {
        System.out.println(sentences + " sentences, " + (wrong == 0 ? "all answers are" : wrong + " answers are not")
                + " as due");
        if (wrong != 0) {
            System.exit(1);
        }
    }

    /** A call's answer, or the name of what it throws. */
    static Object of(Supplier<Object> call) {
        try {
            return call.get();
        } catch (RuntimeException e) {
            return "throws." + e.getClass().getSimpleName();
        }
    }

    /** Refused by -9: house(1) is one more then, and all else is as in an object without that call. */
    static void refused(String call, Supplier<Twinreaders> made, Function<Twinreaders, Object> act) {
        Twinreaders x = made.get();
        int before = x.house(1);
        due(call, of(() -> act.apply(x)), -9);
        due(call + ", house(1) then", x.house(1), before + 1);
        due(call + ", all else", whole(x), whole(made.get()));
    }

    /** Throws: all is as in an object without that call. */
    static void thrown(String call, Supplier<Twinreaders> made, Function<Twinreaders, Object> act, String name) {
        Twinreaders x = made.get();
        Twinreaders y = made.get();
        due(call, of(() -> act.apply(x)), name);
        due(call + ", digest() then", x.digest(), y.digest());
        due(call + ", all", x.house(1) + whole(x), y.house(1) + whole(y));
    }

    /** Answers, and changes nothing by it. */
    static void asked(String call, Supplier<Twinreaders> made, Function<Twinreaders, Object> ask, Object want) {
        Twinreaders x = made.get();
        Twinreaders y = made.get();
        due(call, of(() -> ask.apply(x)), want);
        due(call + ", digest() then", x.digest(), y.digest());
        due(call + ", all", x.house(1) + whole(x), y.house(1) + whole(y));
    }

    static void type(Twinreaders x, String text) {
        x.cut(x.draftLength());
        for (int i = 0; i < text.length(); i++) {
            x.sign(text.charAt(i));
        }
    }

    /** A new object with a print 1 of the text, on all of which each reader is opened. */
    static Twinreaders on(String text) {
        Twinreaders x = new Twinreaders();
        type(x, text);
        x.print();
        for (int reader = 0; reader < 6; reader++) {
            x.openWhole(reader);
        }
        return x;
    }

    /** A new object with a print 1 of the text, on a span of which each reader is opened. */
    static Twinreaders on(String text, int from, int many) {
        Twinreaders x = on(text);
        for (int reader = 0; reader < 6; reader++) {
            x.open(reader, from, many);
        }
        return x;
    }

    /** An object in which next to nothing is as in a new one: the draft is full, reader 3 is ahead of its mark. */
    static Twinreaders stirred() {
        Twinreaders x = on("ab \"c d\" -12 /*e*/ //f");
        x.nextWord(0, 0);
        x.nextWord(0, 3);
        x.read(0);
        x.open(1, 3, 5);
        x.read(1);
        x.readTray(1, 2, 3);
        x.toEnd(2, 8);
        x.nextWord(3, 1);
        x.skip(3, 7);
        x.mark(3, 0);
        x.skip(3, -5);
        x.open(4, 8, 9);
        x.nextWord(4, 2);
        x.read(4);
        x.toEnd(5, 4);
        type(x, "x 7");
        x.print();
        type(x, "");
        for (int i = 0; i < 18; i++) {
            x.lay(3);
        }
        x.sign(65);
        x.knock();
        x.knock();
        return x;
    }

    static String state(Twinreaders x, int reader) {
        return x.printOf(reader) + ":" + x.begin(reader) + "+" + x.span(reader) + " " + x.place(reader)
                + "/" + x.marked(reader) + " " + x.lastKind(reader) + "@" + x.lastFrom(reader) + "^"
                + x.lastGap(reader) + "<" + x.lastText(reader) + ">";
    }

    /** All that can be told of an object but house(1); the newest print is told last, by acts. */
    static String whole(Twinreaders x) {
        StringBuilder text = new StringBuilder();
        text.append(x.draftLength()).append(x.draft()).append('|').append(x.trayText());
        for (int reader = 0; reader < 6; reader++) {
            text.append('|').append(state(x, reader)).append(x.rest(reader)).append(x.ahead(reader));
            text.append(x.restText(reader, 0)).append('|').append(x.joined(reader, 1, 3));
        }
        text.append('|').append(x.house(0)).append('|').append(x.house(2)).append('|').append(x.house(3));
        text.append(x.isSound()).append(x.openWhole(0)).append(x.restText(0, 0)).append('|').append(x.print());
        return text.toString();
    }
}
