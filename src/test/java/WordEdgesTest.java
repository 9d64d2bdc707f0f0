import java.util.ArrayList;
import java.util.List;
import java.util.function.Function;

/**
 * The edges that chapter 3 of the document names, and promises 30 to 44: each sentence has a test of
 * its own, with words that were cut by hand.
 */
public final class WordEdgesTest {
    private static final int MAX = Due.MAX;
    private static final int MIN = Due.MIN;
    private static final String INDEX = Due.INDEX;
    private static final String ARGUMENT = Due.ARGUMENT;
    private static final int[] BAD_READERS = {-1, 6, MAX, MIN};
    private static final int[] BAD_SIZES = {-1, 9, 10, MAX, MIN};
    private static final int[] BAD_DOORS = {-1, 2, 3, MAX, MIN};
    private static final int[] BAD_WHICH = {-1, 36, 37, MAX, MIN};
    private static final int[] ALLOWED_OR_NOT = {0, -1, 9};

    /** What stands right ahead of a span and right behind it in the print is none of its signs. */
    private static final String[] NEIGHBOURS = {"", "\"", "/", "*", "-", "5", "a", "\n", " "};

    private static final List<String> TEXTS = new ArrayList<>();

    public static void main(String[] args) {
        gaps();
        names();
        numbers();
        quotedOnes();
        remarks();
        starredRemarks();
        singles();
        ends();
        places();
        values();
        insides();
        nextWords();
        nextWordsAtEnd();
        toEnds();
        lastWords();
        whichOnes();
        wholeSpans();
        joinedOnes();
        sameOnes();
        wrongSizes();
        wrongDoors();
        wrongWhich();
        Due.end();
    }

    private static void sentence(String words, Runnable test) {
        Due.sentence(words, test);
    }

    private static void due(String call, Object got, Object want) {
        Due.due(call, got, want);
    }

    // ---- words that were cut by hand: kind@begin+signs, with ! if the word is open

    private static final class Word {
        final int kind;
        final int from;
        final int end;
        final boolean open;

        Word(String told, int shift) {
            int at = told.indexOf('@');
            int plus = told.indexOf('+');
            open = told.endsWith("!");
            kind = Integer.parseInt(told.substring(0, at));
            from = shift + Integer.parseInt(told.substring(at + 1, plus));
            end = from + Integer.parseInt(told.substring(plus + 1, told.length() - (open ? 1 : 0)));
        }
    }

    private static List<Word> parsed(String want, int shift) {
        List<Word> all = new ArrayList<>();
        for (String told : want.isEmpty() ? new String[0] : want.split(" ")) {
            all.add(new Word(told, shift));
        }
        return all;
    }

    /** By each reader, door and size, with other signs around the span, and with blanks ahead of the text. */
    private static void cut(String text, String want) {
        TEXTS.add(text);
        int turn = 0;
        for (String beside : NEIGHBOURS) {
            if (text.length() + 2 * beside.length() <= 36) {
                cutIn(beside + text + beside, beside.length(), text, parsed(want, 0), turn++);
            }
        }
        for (int shift = 1; shift <= 8 && text.length() + shift <= 36; shift++) {
            String shifted = " ".repeat(shift) + text;
            cutIn(shifted, 0, shifted, parsed(want, shift), turn++);
        }
    }

    private static void cutIn(String print, int begin, String text, List<Word> words, int turn) {
        for (int size = 0; size <= 8; size++) {
            int reader = (size + turn) % 6;
            for (int door = 0; door < 2; door++) {
                Twinreaders x = Due.on(print, begin, text.length());
                askAll(x, (reader + 3 * door) % 6, door, size, text, words);
            }
            stepAll(Due.on(print, begin, text.length()), reader, size, text, words);
            goToEnd(Due.on(print, begin, text.length()), (reader + 3) % 6, size, text, words);
        }
    }

    private static void askAll(Twinreaders x, int reader, int door, int size, String text, List<Word> words) {
        StringBuilder kinds = new StringBuilder();
        for (int i = 0; i < words.size(); i++) {
            Word word = words.get(i);
            kinds.append(word.kind);
            due("wordFrom " + i + " of " + text, x.wordFrom(reader, i, door, size), word.from);
            due("wordText " + i + " of " + text, x.wordText(reader, i, door, size),
                    text.substring(word.from, word.end));
        }
        if (words.size() < 36) {
            due("wordFrom of none of " + text, x.wordFrom(reader, words.size(), door, size), -1);
            due("wordText of none of " + text, x.wordText(reader, words.size(), door, size), "");
            due("wordValue of none of " + text, x.wordValue(reader, words.size(), door, size), 0);
            due("inside of none of " + text, x.inside(reader, words.size(), door, size), "");
            due("wordFrom 35 of " + text, x.wordFrom(reader, 35, door, size), -1);
        }
        due("words of " + text, x.words(reader, door, size), words.size());
        due("kinds of " + text, x.kinds(reader, door, size), kinds.toString());
        due("joined of " + text, x.joined(reader, door, size), text);
        boolean open = !words.isEmpty() && words.get(words.size() - 1).open;
        due("isOpen of " + text, x.isOpen(reader, door, size), open);
        due("sameWords of " + text, x.sameWords(reader, 5 - reader, size), true);
        due("isSound of " + text, x.isSound(), true);
        due("place and mark", x.place(reader) + "/" + x.marked(reader), "0/0");
    }

    private static void stepAll(Twinreaders x, int reader, int size, String text, List<Word> words) {
        int was = 0;
        String head = x.printOf(reader) + ":" + x.begin(reader) + "+" + text.length() + " ";
        for (Word word : words) {
            due("nextWord of " + text, x.nextWord(reader, size), word.kind);
            due("state in " + text, Due.state(x, reader), head + word.end + "/" + word.end + " " + word.kind + "@"
                    + word.from + "^" + (word.from - was) + "<" + text.substring(word.from, word.end) + ">");
            was = word.end;
        }
        String end = head + text.length() + "/" + text.length() + " 0@" + text.length() + "^";
        due("nextWord at the end of " + text, x.nextWord(reader, size), 0);
        due("state at the end of " + text, Due.state(x, reader), end + (text.length() - was) + "<>");
        due("nextWord at the END of " + text, x.nextWord(reader, size), 0);
        due("state at the END of " + text, Due.state(x, reader), end + "0<>");
        due("words read of " + text, x.house(2), words.size());
    }

    private static void goToEnd(Twinreaders x, int reader, int size, String text, List<Word> words) {
        int was = words.isEmpty() ? 0 : words.get(words.size() - 1).end;
        String end = x.printOf(reader) + ":" + x.begin(reader) + "+" + text.length() + " " + text.length() + "/"
                + text.length() + " 0@" + text.length() + "^";
        int acts = x.house(0);
        due("toEnd of " + text, x.toEnd(reader, size), words.size());
        due("state behind toEnd of " + text, Due.state(x, reader), end + (text.length() - was) + "<>");
        due("ACTS of " + text, x.house(0), acts + 1);
        due("toEnd again of " + text, x.toEnd(reader, size), 0);
        due("state behind toEnd again of " + text, Due.state(x, reader), end + "0<>");
        due("words read of " + text, x.house(2), words.size());
    }

    // ---- chapter 3

    private static void gaps() {
        sentence("3: a GAP, all BLANKS up to the first SIGN that is none; BLANKS are the codes 0 to 32", () -> {
            StringBuilder all = new StringBuilder();
            for (int code = 0; code <= 32; code++) {
                all.append((char) code);
                cut("a" + (char) code + "b", "1@0+1 1@2+1");
                cut((char) code + "7", "2@1+1");
                cut("\"\"" + (char) code, "3@0+2");
            }
            cut(all.toString(), "");
            cut(all + "!", "5@33+1");
            cut("!" + all + "a", "5@0+1 1@34+1");
            cut("a!b", "1@0+1 5@1+1 1@2+1");
            cut("a\u007fb", "1@0+1 5@1+1 1@2+1");
            cut("a\u0080b", "1@0+1 5@1+1 1@2+1");
            cut("a\u00a0b", "1@0+1 5@1+1 1@2+1");
        });
        sentence("3: if the END is reached, there is no WORD", () -> {
            cut("", "");
            cut(" ", "");
            cut("\n", "");
            cut("  \n ", "");
            cut(" ".repeat(36), "");
            cut(" ".repeat(35) + "a", "1@35+1");
            cut("a" + " ".repeat(35), "1@0+1");
        });
        sentence("3: a GAP can have 0 SIGNS", () -> {
            cut(";a", "5@0+1 1@1+1");
            cut("1a", "2@0+1 1@1+1");
            cut("\"\"a", "3@0+2 1@2+1");
            cut("/**/a", "4@0+4 1@4+1");
        });
    }

    private static void names() {
        sentence("3: KIND 1 begins with a LETTER: 65 to 90, 97 to 122 and 95", () -> {
            for (int code = 33; code < 256; code++) {
                boolean letter = code >= 65 && code <= 90 || code >= 97 && code <= 122 || code == 95;
                if (letter) {
                    cut(String.valueOf((char) code), "1@0+1");
                    cut((char) code + "0" + (char) code, "1@0+3");
                    cut("1" + (char) code, "2@0+1 1@1+1");
                }
            }
            cut("@A", "5@0+1 1@1+1");
            cut("Z[", "1@0+1 5@1+1");
            cut("^_`", "5@0+1 1@1+1 5@2+1");
            cut("`a", "5@0+1 1@1+1");
            cut("z{", "1@0+1 5@1+1");
        });
        sentence("3: all LETTERS and DIGITS that follow, up to the first SIGN that is neither", () -> {
            cut("a0123456789z_A", "1@0+14");
            cut("a/0", "1@0+1 5@1+1 2@2+1");
            cut("a9:", "1@0+2 5@2+1");
            cut("a@b[c`d{", "1@0+1 5@1+1 1@2+1 5@3+1 1@4+1 5@5+1 1@6+1 5@7+1");
            cut("a-5", "1@0+1 2@1+2");
            cut("a\"b\"", "1@0+1 3@1+3");
            cut("a//b", "1@0+1 4@1+3");
            cut("a/*b*/c", "1@0+1 4@1+5 1@6+1");
            cut("a\u00e9\u00aa\u00b5", "1@0+1 5@1+1 5@2+1 5@3+1");
            cut("a b", "1@0+1 1@2+1");
        });
        sentence("3: a NAME up to the END, of 36 SIGNS, too", () -> {
            cut("a", "1@0+1");
            cut("a".repeat(36), "1@0+36");
            cut("_" + "9".repeat(35), "1@0+36");
            cut(" " + "Z".repeat(35), "1@1+35");
        });
    }

    private static void numbers() {
        sentence("3: KIND 2 begins with a DIGIT: 48 to 57", () -> {
            for (char code = '0'; code <= '9'; code++) {
                cut(String.valueOf(code), "2@0+1");
                cut("-" + code, "2@0+2");
                cut("9" + code, "2@0+2");
                cut("a" + code, "1@0+2");
            }
            cut("/0", "5@0+1 2@1+1");
            cut("9:", "2@0+1 5@1+1");
            cut("\u00b2\u00b9", "5@0+1 5@1+1");
        });
        sentence("3: or with the LESS, if a DIGIT is right behind that", () -> {
            cut("-", "5@0+1");
            cut("--", "5@0+1 5@1+1");
            cut("-a", "5@0+1 1@1+1");
            cut("- 5", "5@0+1 2@2+1");
            cut("-\n5", "5@0+1 2@2+1");
            cut("--5", "5@0+1 2@1+2");
            cut("---5", "5@0+1 5@1+1 2@2+2");
            cut("-/", "5@0+1 5@1+1");
            cut("-:", "5@0+1 5@1+1");
            cut("-_5", "5@0+1 1@1+2");
            cut("+5", "5@0+1 2@1+1");
            cut("-\"5", "5@0+1 3@1+2!");
            cut("-//5", "5@0+1 4@1+3");
        });
        sentence("3: all DIGITS that follow, up to the first SIGN that is none", () -> {
            cut("12-3", "2@0+2 2@2+2");
            cut("-12-3-", "2@0+3 2@3+2 5@5+1");
            cut("1.5", "2@0+1 5@1+1 2@2+1");
            cut("0x1f", "2@0+1 1@1+3");
            cut("1_", "2@0+1 1@1+1");
            cut("1/2:3", "2@0+1 5@1+1 2@2+1 5@3+1 2@4+1");
            cut("1\"2\"", "2@0+1 3@1+3");
            cut("1//2", "2@0+1 4@1+3");
            cut("-5a", "2@0+2 1@2+1");
            cut("1 2", "2@0+1 2@2+1");
        });
        sentence("3: a NUMBER up to the END, of nine DIGITS and of more, of 36 SIGNS, too", () -> {
            cut("123456789", "2@0+9");
            cut("-123456789", "2@0+10");
            cut("1234567890", "2@0+10");
            cut("7".repeat(36), "2@0+36");
            cut("-" + "7".repeat(35), "2@0+36");
            cut("7".repeat(35) + "-", "2@0+35 5@35+1");
        });
    }

    private static void quotedOnes() {
        sentence("3: KIND 3 begins with the QUOTE; any other QUOTE is its last SIGN", () -> {
            cut("\"\"", "3@0+2");
            cut("\"a\"", "3@0+3");
            cut("\"a\"b", "3@0+3 1@3+1");
            cut("\"a\" \"b\"", "3@0+3 3@4+3");
            cut("\"\" \"\"", "3@0+2 3@3+2");
            cut("\"a\n//b\"", "3@0+7");
            cut("\"/*\"*/", "3@0+4 5@4+1 5@5+1");
            cut("\"-5 x\"-5", "3@0+6 2@6+2");
            cut("\"" + "b".repeat(34) + "\"", "3@0+36");
        });
        sentence("3: a QUOTE with a QUOTE right behind it: both belong to the WORD, one looks on behind both", () -> {
            cut("\"\"\"\"", "3@0+4");
            cut("\"\"\"\"\"\"", "3@0+6");
            cut("\"\"\"a\"", "3@0+5");
            cut("\"a\"\"b\"", "3@0+6");
            cut("\"a\"\"\"", "3@0+5");
            cut("\"a\"\"\"b", "3@0+5 1@5+1");
            cut("\"\"\"\" \"", "3@0+4 3@5+1!");
            cut("\"".repeat(36), "3@0+36");
        });
        sentence("3: if the END comes first, all SIGNS up to it belong to it, and it is OPEN", () -> {
            cut("\"", "3@0+1!");
            cut("\"a", "3@0+2!");
            cut("\" ", "3@0+2!");
            cut("\"\n", "3@0+2!");
            cut("a\"", "1@0+1 3@1+1!");
            cut("\"\"\"", "3@0+3!");
            cut("\"a\"\"", "3@0+4!");
            cut("\"\"\"\"\"", "3@0+5!");
            cut("\"a\"\"b", "3@0+5!");
            cut("\"a\"\"b\"\"", "3@0+7!");
            cut("\"a\"\"", "3@0+4!");
            cut("\"\" \"", "3@0+2 3@3+1!");
            cut("\"//", "3@0+3!");
            cut("\"/**/", "3@0+5!");
            cut("\"" + "b".repeat(35), "3@0+36!");
            cut("\"".repeat(35), "3@0+35!");
            cut(";".repeat(35) + "\"", singles(35) + " 3@35+1!");
        });
    }

    private static String singles(int many) {
        StringBuilder all = new StringBuilder();
        for (int i = 0; i < many; i++) {
            all.append(i == 0 ? "" : " ").append("5@").append(i).append("+1");
        }
        return all.toString();
    }

    private static void remarks() {
        sentence("3: KIND 4 begins with two SLASHES; up to the first LINE END, which does not belong to it", () -> {
            cut("//\n", "4@0+2");
            cut("//a\n", "4@0+3");
            cut("//a\nb", "4@0+3 1@4+1");
            cut("//\nb", "4@0+2 1@3+1");
            cut("//\n\n//\n", "4@0+2 4@4+2");
            cut("//\t\u000b\r\u0009\u000c \n5", "4@0+8 2@9+1");
            cut("//\"\n\"", "4@0+3 3@4+1!");
            cut("//*\n*/", "4@0+3 5@4+1 5@5+1");
            cut("// */ /* //\n;", "4@0+11 5@12+1");
            cut("//" + "x".repeat(32) + "\n1", "4@0+34 2@35+1");
        });
        sentence("3: or up to the END; it is never OPEN", () -> {
            cut("//", "4@0+2");
            cut("///", "4@0+3");
            cut("////", "4@0+4");
            cut("//a", "4@0+3");
            cut("// ", "4@0+3");
            cut("a //", "1@0+1 4@2+2");
            cut("//\"", "4@0+3");
            cut("//*", "4@0+3");
            cut("///*", "4@0+4");
            cut("//\u000b", "4@0+3");
            cut("/".repeat(36), "4@0+36");
            cut(" ".repeat(34) + "//", "4@34+2");
            cut(" ".repeat(35) + "/", "5@35+1");
        });
    }

    private static void starredRemarks() {
        sentence("3: a SLASH and a STAR; up to the first SLASH that is right behind a STAR, that SLASH, too", () -> {
            cut("/**/", "4@0+4");
            cut("/*a*/", "4@0+5");
            cut("/*a*/b", "4@0+5 1@5+1");
            cut("/***/", "4@0+5");
            cut("/****/", "4@0+6");
            cut("/**/*/", "4@0+4 5@4+1 5@5+1");
            cut("/**/**/", "4@0+4 5@4+1 5@5+1 5@6+1");
            cut("/**//**/", "4@0+4 4@4+4");
            cut("/**///", "4@0+4 4@4+2");
            cut("/*\n*/;", "4@0+5 5@5+1");
            cut("/*//*/;", "4@0+6 5@6+1");
            cut("/*\"*/\"", "4@0+5 3@5+1!");
            cut("/* * / */", "4@0+9");
            cut("/*a*b*/c", "4@0+7 1@7+1");
            cut("/**a*/", "4@0+6");
            cut("/**0*~*\u00ff*.*-*/", "4@0+14");
            cut("/*a/*/", "4@0+6");
            cut("/*0/~/\u00ff/./-/*/", "4@0+14");
            cut("/*" + "x".repeat(32) + "*/", "4@0+36");
            cut("/" + "*".repeat(34) + "/", "4@0+36");
        });
        sentence("3: the STAR must be another one than that of the begin", () -> {
            cut("/*/", "4@0+3!");
            cut("/*/*/", "4@0+5");
            cut("/*/ */", "4@0+6");
            cut("/*//", "4@0+4!");
            cut("/*/**/", "4@0+6");
            cut("/*/a", "4@0+4!");
        });
        sentence("3: if there is none up to the END, all SIGNS belong to it, and it is OPEN", () -> {
            cut("/*", "4@0+2!");
            cut("/**", "4@0+3!");
            cut("/***", "4@0+4!");
            cut("/*a", "4@0+3!");
            cut("/*a*", "4@0+4!");
            cut("/* ", "4@0+3!");
            cut("/*\n", "4@0+3!");
            cut("/*\"\"", "4@0+4!");
            cut("/* * / ", "4@0+7!");
            cut("/*a*b", "4@0+5!");
            cut("/**a", "4@0+4!");
            cut("/*a/", "4@0+4!");
            cut("/*+/./", "4@0+6!");
            cut("a/*", "1@0+1 4@1+2!");
            cut("/**/ /*", "4@0+4 4@5+2!");
            cut("/*" + "x".repeat(34), "4@0+36!");
            cut("/*" + "x".repeat(33) + "*", "4@0+36!");
            cut(" ".repeat(34) + "/*", "4@34+2!");
        });
    }

    private static void singles() {
        sentence("3: KIND 5, a SINGLE one: that SIGN alone", () -> {
            for (int code = 33; code < 256; code++) {
                boolean letter = code >= 65 && code <= 90 || code >= 97 && code <= 122 || code == 95;
                boolean digit = code >= 48 && code <= 57;
                if (!letter && !digit && code != 34) {
                    cut(String.valueOf((char) code), "5@0+1");
                    String twice = String.valueOf((char) code) + (char) code;
                    cut(twice, code == 47 ? "4@0+2" : "5@0+1 5@1+1");
                    if (code != 47) {
                        cut((char) code + "/", "5@0+1 5@1+1");
                        cut((char) code + "*", "5@0+1 5@1+1");
                        cut((char) code + "//", "5@0+1 4@1+2");
                        cut((char) code + "/*", "5@0+1 4@1+2!");
                        cut((char) code + "-5", "5@0+1 2@1+2");
                        cut((char) code + "\"\"", "5@0+1 3@1+2");
                    }
                    if (code != 45) {
                        cut((char) code + "5", "5@0+1 2@1+1");
                    }
                }
            }
        });
        sentence("3: a SLASH that no SLASH and no STAR is right behind", () -> {
            cut("/", "5@0+1");
            cut("/ /", "5@0+1 5@2+1");
            cut("/ *", "5@0+1 5@2+1");
            cut("/\n/", "5@0+1 5@2+1");
            cut("/a", "5@0+1 1@1+1");
            cut("/5", "5@0+1 2@1+1");
            cut("/-5", "5@0+1 2@1+2");
            cut("/\"/\"", "5@0+1 3@1+3");
            cut("*/", "5@0+1 5@1+1");
            cut("*//", "5@0+1 4@1+2");
            cut("**/", "5@0+1 5@1+1 5@2+1");
            cut("*/*", "5@0+1 4@1+2!");
        });
        sentence("3: 36 WORDS", () -> {
            cut(";".repeat(36), singles(36));
            cut("-".repeat(35) + "a", singles(35) + " 1@35+1");
            cut(".".repeat(35) + "7", singles(35) + " 2@35+1");
            cut("-".repeat(34) + "-7", singles(34) + " 2@34+2");
        });
    }

    private static void ends() {
        sentence("3: told of the SIGNS up to the END of a SPAN: those behind it are none", () -> {
            dueSpan("-5", 0, 1, "5@0+1");
            dueSpan("-55", 0, 2, "2@0+2");
            dueSpan("ab", 0, 1, "1@0+1");
            dueSpan("\"\"", 0, 1, "3@0+1!");
            dueSpan("\"a\"", 0, 2, "3@0+2!");
            dueSpan("\"a\"\"b\"", 0, 3, "3@0+3");
            dueSpan("\"a\"\"b\"", 0, 4, "3@0+4!");
            dueSpan("//", 0, 1, "5@0+1");
            dueSpan("//\n", 0, 2, "4@0+2");
            dueSpan("/*", 0, 1, "5@0+1");
            dueSpan("/**/", 0, 3, "4@0+3!");
            dueSpan("/**/", 0, 2, "4@0+2!");
            dueSpan("a  b", 0, 3, "1@0+1");
        });
        sentence("3: and from its begin on: those ahead of it are none", () -> {
            dueSpan("-5", 1, 1, "2@0+1");
            dueSpan("a5", 1, 1, "2@0+1");
            dueSpan("\"a\"", 1, 2, "1@0+1 3@1+1!");
            dueSpan("\"\"\"", 1, 2, "3@0+2");
            dueSpan("///", 1, 2, "4@0+2");
            dueSpan("//a", 1, 2, "5@0+1 1@1+1");
            dueSpan("/*/", 1, 2, "5@0+1 5@1+1");
            dueSpan("/*/**/", 2, 4, "4@0+4");
            dueSpan("/*a*/", 2, 3, "1@0+1 5@1+1 5@2+1");
        });
        sentence("3: only what was told to be OPEN is", () -> {
            String[] closed = {"", " ", "a", "5", "-5", "-", "/", "//", "//\"", "// /*", "\"\"", "\"a\" ", "/**/",
                "/**/ ", "\"\"a", "*/", ";"};
            for (String text : closed) {
                dueOpen(text, false);
            }
            for (String text : new String[] {"\"", "\" ", "a\"", "\"\"\"", "/*", "/*/", "/* ", "a/*", "\"\" \""}) {
                dueOpen(text, true);
            }
        });
    }

    private static void dueSpan(String print, int from, int many, String want) {
        for (int turn = 0; turn < 6; turn++) {
            cutIn(print, from, print.substring(from, from + many), parsed(want, 0), turn);
        }
    }

    private static void dueOpen(String text, boolean want) {
        for (int reader = 0; reader < 6; reader++) {
            Twinreaders x = Due.on(text);
            for (int door = 0; door < 2; door++) {
                for (int size = 0; size <= 8; size++) {
                    due("isOpen of " + text, x.isOpen(reader, door, size), want);
                }
            }
        }
    }

    private static void places() {
        sentence("3: what is told of the SIGNS from a place: what is ahead of PLACE is of no matter", () -> {
            for (String text : TEXTS) {
                for (int place = 0; place <= text.length() && text.length() < 12; place++) {
                    fromPlace(text, place);
                }
            }
        });
        sentence("nextWord: reads the GAP that begins at PLACE, and the WORD at its end", () -> {
            dueFrom("ab", 1, "1:0+2 2/2 1@1^0<b>");
            dueFrom("a   b", 2, "1:0+5 5/5 1@4^2<b>");
            dueFrom("a   b", 4, "1:0+5 5/5 1@4^0<b>");
            dueFrom("-5", 1, "1:0+2 2/2 2@1^0<5>");
            dueFrom("\"a\" b", 1, "1:0+5 2/2 1@1^0<a>");
            dueFrom("\"a\" b", 2, "1:0+5 5/5 3@2^0<\" b>");
            dueFrom("\"\"\"", 1, "1:0+3 3/3 3@1^0<\"\">");
            dueFrom("//b", 1, "1:0+3 2/2 5@1^0</>");
            dueFrom("/*/", 1, "1:0+3 2/2 5@1^0<*>");
            dueFrom("/*/**/", 2, "1:0+6 6/6 4@2^0</**/>");
            dueFrom("a  ", 1, "1:0+3 3/3 0@3^2<>");
            dueFrom("a  ", 2, "1:0+3 3/3 0@3^1<>");
            dueFrom("a  ", 3, "1:0+3 3/3 0@3^0<>");
        });
    }

    /** From the place on the reader finds what another one finds on a span that begins there. */
    private static void fromPlace(String text, int place) {
        int reader = place % 6;
        int other = (reader + 3) % 6;
        Twinreaders x = Due.on(text);
        x.open(other, place, 36);
        x.skip(reader, place);
        due("nextWord of " + text + " from " + place, x.nextWord(reader, 4), x.nextWord(other, 0));
        due("lastText", x.lastText(reader), x.lastText(other));
        due("lastFrom", x.lastFrom(reader), place + x.lastFrom(other));
        due("lastGap", x.lastGap(reader), x.lastGap(other));
        due("place", x.place(reader), place + x.place(other));
        due("toEnd", x.toEnd(reader, 1), x.toEnd(other, 7));
        due("lastGap behind toEnd", x.lastGap(reader), x.lastGap(other));
    }

    private static void dueFrom(String text, int place, String want) {
        for (int reader = 0; reader < 6; reader++) {
            for (int size = 0; size <= 8; size++) {
                Twinreaders x = Due.on(text);
                x.skip(reader, place);
                x.nextWord(reader, size);
                due("nextWord of " + text + " from " + place, Due.state(x, reader), want);
            }
        }
    }

    private static void values() {
        sentence("3: VALUE of a NUMBER: its DIGITS, read as a whole number (each worth 0 to 9)", () -> {
            for (int digit = 0; digit <= 9; digit++) {
                value("" + digit, digit);
                value("1" + digit, 10 + digit);
                value("-" + digit, -digit);
            }
            value("007", 7);
            value("-007", -7);
            value("000000000", 0);
            value("-0", 0);
        });
        sentence("3: of nine DIGITS, and of more the last nine", () -> {
            value("99999999", 99999999);
            value("123456789", 123456789);
            value("999999999", 999999999);
            value("100000000", 100000000);
            value("1000000000", 0);
            value("1234567890", 234567890);
            value("2147483648", 147483648);
            value("9999999999", 999999999);
            value("0123456789", 123456789);
            value("1".repeat(27) + "123456789", 123456789);
            value("9".repeat(36), 999999999);
            value("9".repeat(35) + "1", 999999991);
            value("1" + "0".repeat(35), 0);
            value("1" + "0".repeat(34) + "7", 7);
        });
        sentence("3: below 0 if it begins with the LESS", () -> {
            value("-123456789", -123456789);
            value("-99999999", -99999999);
            value("-999999999", -999999999);
            value("-1000000000", 0);
            value("-1234567890", -234567890);
            value("-2147483648", -147483648);
            value("-" + "9".repeat(35), -999999999);
            value("-1" + "0".repeat(34), 0);
            value("-9", -9);
            value("-1000000009", -9);
        });
        sentence("wordValue: 0 if it is no NUMBER, or there is none", () -> {
            for (String text : new String[] {"", "  ", "a5", "\"5\"", "\"5", "//5", "/*5*/", "/*5", ";", "-", "-a"}) {
                value(text, 0);
            }
            Twinreaders x = Due.on("5;6");
            due("wordValue(0)", x.wordValue(0, 0, 0, 0), 5);
            due("wordValue(1)", x.wordValue(0, 1, 0, 0), 0);
            due("wordValue(2)", x.wordValue(0, 2, 0, 0), 6);
            due("wordValue(3)", x.wordValue(0, 3, 0, 0), 0);
            due("wordValue(35)", x.wordValue(0, 35, 0, 0), 0);
        });
        sentence("3: a NUMBER that the SPAN's begin and END cut off", () -> {
            Twinreaders x = Due.on("-1234567890123", 1, 10);
            due("without its LESS", x.wordValue(1, 0, 0, 0), 234567890);
            x.openWhole(1);
            due("whole", x.wordValue(1, 0, 0, 0), -567890123);
            x.open(1, 0, 10);
            due("nine DIGITS", x.wordValue(1, 0, 1, 8), -123456789);
            x.open(1, 5, 3);
            due("three DIGITS", x.wordValue(1, 0, 1, 8), 567);
        });
    }

    private static void value(String text, int want) {
        for (int reader = 0; reader < 6; reader++) {
            Twinreaders x = Due.on(text);
            for (int door = 0; door < 2; door++) {
                for (int size = 0; size <= 8; size++) {
                    due("wordValue of " + text, x.wordValue(reader, 0, door, size), want);
                }
            }
            due("refusals", x.house(1), 0);
        }
    }

    private static void insides() {
        sentence("3: INSIDE of a QUOTED one: its SIGNS without the first one and without the last one", () -> {
            inside("\"\"", "");
            inside("\"a\"", "a");
            inside("\" \"", " ");
            inside("\"\n\"", "\n");
            inside("\"a b\" c", "a b");
            inside("\"" + "b".repeat(34) + "\"", "b".repeat(34));
        });
        sentence("3: if it is OPEN, with the last one", () -> {
            inside("\"", "");
            inside("\"a", "a");
            inside("\"a ", "a ");
            inside("\"" + "b".repeat(35), "b".repeat(35));
        });
        sentence("3: of each two QUOTES that are together there (told by pairs from the left) one is left out", () -> {
            inside("\"\"\"\"", "\"");
            inside("\"\"\"\"\"\"", "\"\"");
            inside("\"\"\"\"\"\"\"\"", "\"\"\"");
            inside("\"\"\"a\"", "\"a");
            inside("\"a\"\"\"", "a\"");
            inside("\"a\"\"b\"", "a\"b");
            inside("\"a\"\"b\"\"c\"", "a\"b\"c");
            inside("\"a\"\"\"\"b\"", "a\"\"b");
            inside("\"\"\"", "\"");
            inside("\"\"\"\"\"", "\"\"");
            inside("\"a\"\"", "a\"");
            inside("\"a\"\"\"\"", "a\"\"");
            inside("\"\"\"a", "\"a");
            inside("\"a\"\" \"\"b", "a\" \"b");
            inside("\"".repeat(36), "\"".repeat(17));
            inside("\"".repeat(35), "\"".repeat(17));
        });
        sentence("inside: \"\" if it is no QUOTED one, or there is none", () -> {
            String[] others = {"", "  ", "a", "abcd", "5", "1234", "-5", "-1234", "//\"a\"", "//ab", "/*\"a\"*/",
                "/*\"a\"", ";", "/", "-", "-a", "*\"a\""};
            for (String text : others) {
                inside(text, "");
            }
            Twinreaders x = Due.on("a\"b\"\"c\"5\"d");
            due("inside(0)", x.inside(0, 0, 0, 0), "");
            due("inside(1)", x.inside(0, 1, 0, 0), "b\"c");
            due("inside(2)", x.inside(0, 2, 0, 0), "");
            due("inside(3)", x.inside(0, 3, 0, 0), "d");
            due("inside(4)", x.inside(0, 4, 0, 0), "");
            due("inside(35)", x.inside(0, 35, 0, 0), "");
        });
    }

    private static void inside(String text, String want) {
        for (int reader = 0; reader < 6; reader++) {
            Twinreaders x = Due.on(text);
            for (int door = 0; door < 2; door++) {
                for (int size = 0; size <= 8; size++) {
                    due("inside of " + text, x.inside(reader, 0, door, size), want);
                }
            }
        }
    }

    // ---- promises 30 to 35

    private static void nextWords() {
        sentence("nextWord: PLACE is where that one ends; the MARK comes to that PLACE, too", () -> {
            for (int reader = 0; reader < 6; reader++) {
                Twinreaders x = Due.on("ab cd ef");
                x.read(reader);
                x.mark(reader, 0);
                x.skip(reader, 2);
                due("nextWord, PLACE behind the MARK", x.nextWord(reader, 0), 1);
                due("state", Due.state(x, reader), "1:0+8 5/5 1@3^0<cd>");
                due("reset", x.reset(reader), 5);
            }
            for (int reader = 3; reader < 6; reader++) {
                Twinreaders x = Due.on("ab cd ef");
                x.nextWord(reader, 0);
                x.nextWord(reader, 0);
                x.skip(reader, -5);
                due("nextWord, PLACE ahead of the MARK", x.nextWord(reader, 0), 1);
                due("state", Due.state(x, reader), "1:0+8 2/2 1@0^0<ab>");
            }
        });
        sentence("nextWord: in a SPAN, begin and places are told from the SPAN's begin on", () -> {
            for (int reader = 0; reader < 6; reader++) {
                Twinreaders x = Due.on("xx ab cd", 2, 5);
                x.nextWord(reader, 3);
                due("the first", Due.state(x, reader), "1:2+5 3/3 1@1^1<ab>");
                x.nextWord(reader, 3);
                due("the second, cut off", Due.state(x, reader), "1:2+5 5/5 1@4^1<c>");
                due("wordFrom", x.wordFrom(reader, 1, 0, 0), 4);
            }
        });
        sentence("nextWord: PLACE goes no further than the WORD, whatever the SIZE is", () -> {
            for (int reader = 0; reader < 6; reader++) {
                for (int size = 0; size <= 8; size++) {
                    Twinreaders x = Due.on("a/b-c\"d\"");
                    due("a", x.nextWord(reader, size), 1);
                    due("read behind a", x.read(reader), 47);
                    due("b", x.nextWord(reader, size), 1);
                    due("ahead behind b", x.ahead(reader), 45);
                    due("rest behind b", x.rest(reader), 5);
                    due("-", x.nextWord(reader, size), 5);
                    due("restText behind -", x.restText(reader, size), "c\"d\"");
                }
            }
        });
    }

    private static void nextWordsAtEnd() {
        sentence("nextWord: if there is none, PLACE is the END, KIND 0, no SIGNS, the END as its begin", () -> {
            for (int reader = 0; reader < 6; reader++) {
                for (int size = 0; size <= 8; size++) {
                    Twinreaders x = Due.on("ab");
                    x.nextWord(reader, size);
                    due("nextWord at the END", x.nextWord(reader, size), 0);
                    due("state", Due.state(x, reader), "1:0+2 2/2 0@2^0<>");
                    due("words read", x.house(2), 1);
                    x.again(reader);
                    x.skip(reader, 2);
                    due("nextWord at the END, MARK 0", x.nextWord(reader, size), 0);
                    due("state", Due.state(x, reader), "1:0+2 2/2 0@2^0<>");
                    due("words read", x.house(2), 1);
                }
            }
        });
        sentence("nextWord: if there is none, the GAP that was read", () -> {
            for (int reader = 0; reader < 6; reader++) {
                for (int gap = 0; gap <= 36; gap++) {
                    Twinreaders x = Due.on(" ".repeat(gap));
                    due("nextWord", x.nextWord(reader, gap % 9), 0);
                    due("state", Due.state(x, reader), "1:0+" + gap + " " + gap + "/" + gap + " 0@" + gap + "^" + gap
                            + "<>");
                    due("words read", x.house(2), 0);
                }
            }
        });
        sentence("nextWord: WORDS that end at the END, open and not open", () -> {
            String[] texts = {"ab", "12", "-5", "\"a\"", "\"a", "\"", "//", "//a", "/**/", "/*", "/*/", ";", "-", "/"};
            String kinds = "12233344444555";
            for (int i = 0; i < texts.length; i++) {
                for (int reader = 0; reader < 6; reader++) {
                    int end = texts[i].length() + 1;
                    Twinreaders x = Due.on(" " + texts[i]);
                    due("nextWord of " + texts[i], x.nextWord(reader, i % 9), kinds.charAt(i) - '0');
                    due("state", Due.state(x, reader), "1:0+" + end + " " + end + "/" + end + " " + kinds.charAt(i)
                            + "@1^1<" + texts[i] + ">");
                    due("then", x.nextWord(reader, i % 9), 0);
                    due("words read", x.house(2), 1);
                }
            }
        });
    }

    private static void toEnds() {
        sentence("toEnd: until 0 is told there (so the LAST WORD has KIND 0 then); how many WORDS were read", () -> {
            for (int reader = 0; reader < 6; reader++) {
                for (int done = 0; done <= 4; done++) {
                    Twinreaders x = Due.on(" a 1 \"b\" //c");
                    for (int i = 0; i < done; i++) {
                        x.nextWord(reader, 0);
                    }
                    due("toEnd behind " + done, x.toEnd(reader, done), 4 - done);
                    due("state", Due.state(x, reader), "1:0+12 12/12 0@12^0<>");
                    due("words read", x.house(2), 4);
                }
            }
        });
        sentence("toEnd: at the END, and with a GAP alone ahead of it", () -> {
            for (int reader = 0; reader < 6; reader++) {
                Twinreaders x = Due.on("a   ");
                x.skip(reader, 4);
                due("at the END", x.toEnd(reader, 0), 0);
                due("state", Due.state(x, reader), "1:0+4 4/4 0@4^0<>");
                x.again(reader);
                x.skip(reader, 2);
                due("in a GAP", x.toEnd(reader, 8), 0);
                due("state", Due.state(x, reader), "1:0+4 4/4 0@4^2<>");
                x.again(reader);
                due("a WORD and a GAP", x.toEnd(reader, 3), 1);
                due("state", Due.state(x, reader), "1:0+4 4/4 0@4^3<>");
                due("words read", x.house(2), 1);
            }
        });
        sentence("toEnd: 36 WORDS, and one of 36 SIGNS", () -> {
            for (int reader = 0; reader < 6; reader++) {
                Twinreaders x = Due.on(";".repeat(36));
                due("36 WORDS", x.toEnd(reader, 5), 36);
                due("state", Due.state(x, reader), "1:0+36 36/36 0@36^0<>");
                x = Due.on("a".repeat(36));
                due("36 SIGNS", x.toEnd(reader, 8), 1);
                due("state", Due.state(x, reader), "1:0+36 36/36 0@36^0<>");
            }
        });
        sentence("toEnd: the MARK comes to the END from behind PLACE and from ahead of it", () -> {
            for (int reader = 3; reader < 6; reader++) {
                Twinreaders x = Due.on("ab cd ef");
                x.skip(reader, 6);
                x.mark(reader, 0);
                x.skip(reader, -5);
                due("toEnd", x.toEnd(reader, 2), 3);
                due("state", Due.state(x, reader), "1:0+8 8/8 0@8^0<>");
            }
        });
    }

    private static void lastWords() {
        sentence("lastKind, lastText, lastFrom, lastGap: none at first, \"\" if KIND 0", () -> {
            for (int reader = 0; reader < 6; reader++) {
                Twinreaders x = Due.on("  ab");
                due("opened", lastOf(x, reader), "0<>0^0");
                x.nextWord(reader, 0);
                due("ab", lastOf(x, reader), "1<ab>2^2");
                x.nextWord(reader, 0);
                due("KIND 0", lastOf(x, reader), "0<>4^0");
                x.again(reader);
                due("opened again", lastOf(x, reader), "0<>0^0");
            }
        });
        sentence("lastText: the LAST WORD stays until another one is read", () -> {
            for (int reader = 0; reader < 6; reader++) {
                Twinreaders x = Due.on("  ab cd");
                x.nextWord(reader, 0);
                x.read(reader);
                x.readTray(reader, 0, 1);
                x.skip(reader, -1);
                x.mark(reader, 0);
                x.reset(reader);
                x.lay(3);
                x.print();
                x.words(reader, 0, 0);
                x.nextWord((reader + 1) % 6, 0);
                x.sameWords(reader, (reader + 1) % 6, 4);
                due("ab", lastOf(x, reader), "1<ab>2^2");
            }
        });
        sentence("lastText: an OPEN one, and one of 36 SIGNS", () -> {
            for (int reader = 0; reader < 6; reader++) {
                Twinreaders x = Due.on(" \"a b");
                x.nextWord(reader, 0);
                due("OPEN", lastOf(x, reader), "3<\"a b>1^1");
                x = Due.on("a".repeat(36));
                x.nextWord(reader, 0);
                due("36 SIGNS", lastOf(x, reader), "1<" + "a".repeat(36) + ">0^0");
                x = Due.on(" ".repeat(35) + "7");
                x.nextWord(reader, 0);
                due("the greatest GAP", lastOf(x, reader), "2<7>35^35");
            }
        });
    }

    private static String lastOf(Twinreaders x, int reader) {
        return x.lastKind(reader) + "<" + x.lastText(reader) + ">" + x.lastFrom(reader) + "^" + x.lastGap(reader);
    }

    // ---- promises 36 to 44

    private static void whichOnes() {
        sentence("wordFrom: -1 if there is none; wordText: \"\" if there is none", () -> {
            for (int many = 0; many <= 36; many++) {
                Twinreaders x = Due.on(";".repeat(many));
                int reader = many % 6;
                for (int which = 0; which < 36; which++) {
                    due("wordFrom " + which, x.wordFrom(reader, which, which % 2, which % 9), which < many ? which : -1);
                    due("wordText " + which, x.wordText(reader, which, which % 2, which % 9), which < many ? ";" : "");
                }
            }
        });
        sentence("3: numbered from 0, up to 35", () -> {
            for (int reader = 0; reader < 6; reader++) {
                Twinreaders x = Due.on(";".repeat(35) + "7");
                due("wordFrom(35)", x.wordFrom(reader, 35, 0, 0), 35);
                due("wordText(35)", x.wordText(reader, 35, 0, 0), "7");
                due("wordValue(35)", x.wordValue(reader, 35, 0, 0), 7);
                due("wordText(0)", x.wordText(reader, 0, 0, 0), ";");
                x = Due.on("7" + ";".repeat(33) + "\"\"");
                due("wordValue(0)", x.wordValue(reader, 0, 1, 3), 7);
                due("inside(34)", x.inside(reader, 34, 1, 3), "");
                due("wordText(34)", x.wordText(reader, 34, 1, 3), "\"\"");
                due("wordFrom(34)", x.wordFrom(reader, 34, 1, 3), 34);
                due("wordFrom(35)", x.wordFrom(reader, 35, 1, 3), -1);
            }
        });
    }

    private static void wholeSpans() {
        sentence("36 to 44: read from the SPAN's begin by another reader; PLACE and MARK stay", () -> {
            int[][] all = {{0, 0}, {4, 0}, {4, 4}, {4, 2}, {11, 0}, {11, 11}, {2, 4}, {0, 4}};
            for (int[] one : all) {
                for (int reader = one[0] < one[1] ? 3 : 0; reader < 6; reader++) {
                    Twinreaders x = Due.on("ab -5 \"c\"\"d");
                    x.skip(reader, one[1]);
                    x.mark(reader, 0);
                    x.skip(reader, one[0] - one[1]);
                    long before = x.digest();
                    due("words", x.words(reader, 0, 3), 3);
                    due("kinds", x.kinds(reader, 1, 0), "123");
                    due("wordFrom", x.wordFrom(reader, 1, 0, 1), 3);
                    due("wordText", x.wordText(reader, 0, 1, 2), "ab");
                    due("wordValue", x.wordValue(reader, 1, 1, 8), -5);
                    due("inside", x.inside(reader, 2, 0, 7), "c\"d");
                    due("isOpen", x.isOpen(reader, 1, 6), true);
                    due("joined", x.joined(reader, 0, 5), "ab -5 \"c\"\"d");
                    due("sameWords", x.sameWords(reader, (reader + 3) % 6, 4), true);
                    due("digest", x.digest(), before);
                }
            }
        });
        sentence("words, kinds: none and 36", () -> {
            for (int reader = 0; reader < 6; reader++) {
                due("words of none", Due.on("").words(reader, 0, 0), 0);
                due("kinds of none", Due.on("").kinds(reader, 1, 8), "");
                due("words of BLANKS", Due.on(" ".repeat(36)).words(reader, 0, 0), 0);
                due("kinds of BLANKS", Due.on(" ".repeat(36)).kinds(reader, 1, 8), "");
                due("words of 36", Due.on(";".repeat(36)).words(reader, 1, 7), 36);
                due("kinds of 36", Due.on(";".repeat(36)).kinds(reader, 0, 1), "5".repeat(36));
            }
        });
    }

    private static void joinedOnes() {
        sentence("joined: each WORD's GAP and the WORD, and the GAP that is behind the last WORD", () -> {
            String[] texts = {"", " ", "a", " a", "a ", " a ", "a b", "  a\n\nb\t ", "\"a ", "//a ", "//a \n", "/* ",
                " ".repeat(36), ";".repeat(36), "\u0000\u00ff\u0000"};
            for (String text : texts) {
                for (int reader = 0; reader < 6; reader++) {
                    Twinreaders x = Due.on("a" + text.substring(0, Math.min(34, text.length())) + "b");
                    Twinreaders y = Due.on(text);
                    x.open(reader, 1, Math.min(34, text.length()));
                    for (int size = 0; size <= 8; size++) {
                        String own = text.substring(0, Math.min(34, text.length()));
                        due("joined of a SPAN", x.joined(reader, size % 2, size), own);
                        due("joined", y.joined(reader, 0, size), text);
                        due("joined", y.joined(reader, 1, size), text);
                    }
                }
            }
        });
    }

    private static void same(String one, String two, boolean want) {
        for (int reader = 0; reader < 6; reader++) {
            for (int other = 0; other < 6; other++) {
                if (reader == other) {
                    continue;
                }
                Twinreaders x = Due.on(one);
                Due.type(x, two);
                x.print();
                x.openWhole(other);
                for (int size = 0; size <= 8; size++) {
                    due("sameWords of " + one + " and " + two, x.sameWords(reader, other, size), want);
                    due("sameWords of " + two + " and " + one, x.sameWords(other, reader, size), want);
                }
            }
        }
    }

    private static void sameOnes() {
        sentence("sameWords: both SPANS have as many WORDS; none, too", () -> {
            same("", "", true);
            same("", " \n ", true);
            same("", "a", false);
            same("  ", ";", false);
            same("a b", "a b c", false);
            same("a", "a a", false);
            same(";".repeat(36), ";".repeat(36), true);
            same(";".repeat(36), ";".repeat(35), false);
            same(";".repeat(36), ";".repeat(35) + ".", false);
        });
        sentence("sameWords: each two with the same number have one KIND and the same SIGNS", () -> {
            same("a b c", "a b c", true);
            same("a b c", "a b d", false);
            same("x b c", "a b c", false);
            same("ab c", "abb c", false);
            same("a bc", "a b", false);
            same("ab", "a b", false);
            same("\"a", "\"a\"", false);
            same("\"a", "\"a ", false);
            same("5", "-5", false);
            same("5", "05", false);
            same("-5", "- 5", false);
            same("//a", "//b", false);
            same("//a", "//a ", false);
            same("a", "A", false);
        });
        sentence("sameWords: GAPS may be unlike", () -> {
            same("a b", "a    b", true);
            same("a b", " a\nb ", true);
            same("a;b", " a ; b ", true);
            same("//a", "//a\n", true);
            same("\"a\"5", "\"a\" 5", true);
        });
        sentence("sameWords: a READER with itself", () -> {
            for (int reader = 0; reader < 6; reader++) {
                for (String text : new String[] {"", " ", "a", "a \"b", ";".repeat(36)}) {
                    Twinreaders x = Due.on(text);
                    for (int size = 0; size <= 8; size++) {
                        due("sameWords of " + text, x.sameWords(reader, reader, size), true);
                    }
                }
            }
        });
    }

    // ---- wrong inputs

    /** Each call with this size; those of the whole span with this which and door, too. */
    private static List<Function<Twinreaders, Object>> calls(int reader, int which, int door, int size) {
        List<Function<Twinreaders, Object>> all = new ArrayList<>();
        all.add(x -> x.wordFrom(reader, which, door, size));
        all.add(x -> x.wordText(reader, which, door, size));
        all.add(x -> x.wordValue(reader, which, door, size));
        all.add(x -> x.inside(reader, which, door, size));
        all.add(x -> x.words(reader, door, size));
        all.add(x -> x.kinds(reader, door, size));
        all.add(x -> x.isOpen(reader, door, size));
        all.add(x -> x.joined(reader, door, size));
        all.add(x -> x.nextWord(reader, size));
        all.add(x -> x.toEnd(reader, size));
        all.add(x -> x.restText(reader, size));
        all.add(x -> x.sameWords(reader, 0, size));
        all.add(x -> x.sameWords(0, reader, size));
        return all;
    }

    private static void allThrow(String what, List<Function<Twinreaders, Object>> calls, String name) {
        for (int i = 0; i < calls.size(); i++) {
            Due.thrown("call " + i + " with " + what, Due::stirred, calls.get(i), name);
            Due.thrown("call " + i + " with " + what + ", new", Twinreaders::new, calls.get(i), name);
        }
    }

    private static void allAnswer(String what, List<Function<Twinreaders, Object>> calls) {
        for (int i = 0; i < calls.size(); i++) {
            Function<Twinreaders, Object> call = calls.get(i);
            boolean answers = !String.valueOf(Due.of(() -> call.apply(Due.stirred()))).startsWith("throws.");
            due("call " + i + " with " + what + " answers", answers, true);
        }
    }

    private static void wrongSizes() {
        sentence("30 to 44: throws if size is not 0 to 8", () -> {
            for (int size : BAD_SIZES) {
                allThrow("size " + size, calls(3, 0, 1, size), ARGUMENT);
                allThrow("size " + size, calls(5, 35, 0, size), ARGUMENT);
            }
            for (int size = 0; size <= 8; size++) {
                allAnswer("size " + size, calls(1, 0, 0, size));
                allAnswer("size " + size, calls(4, 35, 1, size));
            }
        });
        sentence("30 to 44: reader (and other) goes ahead of size", () -> {
            for (int reader : BAD_READERS) {
                for (int size : BAD_SIZES) {
                    allThrow("reader " + reader + ", size " + size, calls(reader, 0, 0, size), INDEX);
                }
                Due.thrown("both", Due::stirred, x -> x.sameWords(reader, reader, 9), INDEX);
            }
        });
    }

    private static void wrongDoors() {
        sentence("36 to 43: throws if door is not 0 or 1", () -> {
            for (int door : BAD_DOORS) {
                for (int size : ALLOWED_OR_NOT) {
                    allThrow("door " + door, calls(3, 0, door, size).subList(0, 8), ARGUMENT);
                    allThrow("door " + door, calls(2, 35, door, size).subList(0, 8), ARGUMENT);
                }
            }
            for (int door = 0; door <= 1; door++) {
                for (int reader = 0; reader < 6; reader++) {
                    allAnswer("door " + door, calls(reader, 0, door, 4));
                }
            }
        });
        sentence("36 to 43: reader goes ahead of door", () -> {
            for (int reader : BAD_READERS) {
                for (int door : BAD_DOORS) {
                    for (int size : ALLOWED_OR_NOT) {
                        allThrow("reader " + reader, calls(reader, 0, door, size).subList(0, 8), INDEX);
                    }
                }
            }
        });
    }

    private static void wrongWhich() {
        sentence("38 to 41: throws if which is not 0 to 35, ahead of door and size", () -> {
            for (int which : BAD_WHICH) {
                for (int door : new int[] {0, 1, -1, 2}) {
                    for (int size : ALLOWED_OR_NOT) {
                        allThrow("which " + which, calls(4, which, door, size).subList(0, 4), INDEX);
                        allThrow("which " + which, calls(6, which, door, size).subList(0, 4), INDEX);
                    }
                }
            }
            for (int which = 0; which <= 35; which++) {
                allAnswer("which " + which, calls(5, which, 1, 8).subList(0, 4));
            }
        });
    }
}
