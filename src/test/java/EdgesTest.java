import java.math.BigInteger;
import java.util.ArrayList;
import java.util.List;
import java.util.function.Function;
import java.util.function.Supplier;

/**
 * The edges that chapters 1, 2 and 4 of the document name, and promises 1 to 29 and 45 to 48: each
 * sentence has a test of its own, with answers worked out by hand.
 */
public final class EdgesTest {
    private static final int MAX = Due.MAX;
    private static final int MIN = Due.MIN;
    private static final String INDEX = Due.INDEX;
    private static final String ARGUMENT = Due.ARGUMENT;
    private static final String STATE = Due.STATE;
    private static final String FULL = "abcdefghijklmnopqrstuvwxyz0123456789";
    private static final int[] BAD_READERS = {-1, 6, 7, MAX, MIN};

    public static void main(String[] args) {
        signsAndPieces();
        draftAndCut();
        printsAndTray();
        opening();
        openingRefused();
        openingAnew();
        copying();
        copyingRefused();
        reading();
        readingIntoTray();
        skipping();
        marking();
        placesAndActs();
        withoutSigns();
        askingReaders();
        askingSigns();
        askingTwo();
        countingActs();
        countingRefusals();
        countingTheRest();
        exceptionsFirst();
        badArguments();
        badReaders();
        wholes();
        digests();
        Due.end();
    }

    private static void sentence(String words, Runnable test) {
        Due.sentence(words, test);
    }

    private static void due(String call, Object got, Object want) {
        Due.due(call, got, want);
    }

    private static Twinreaders full() {
        return Due.on(FULL);
    }

    // ---- chapter 1, and promises 1 to 7

    private static void signsAndPieces() {
        sentence("1: a SIGN has a code, 0 to 255", () -> {
            for (int low = 0; low < 256; low += 32) {
                for (int reader = 0; reader < 6; reader++) {
                    allCodes(low, reader);
                }
            }
        });
        sentence("sign: throws if code is not 0 to 255", () -> {
            for (int code : new int[] {-1, 256, 257, 511, 65536, MAX, MIN}) {
                Due.thrown("sign(" + code + ")", Due::stirred, x -> x.sign(code), ARGUMENT);
                Due.thrown("sign(" + code + ") of a new one", Twinreaders::new, x -> x.sign(code), ARGUMENT);
            }
            due("sign(0)", new Twinreaders().sign(0), 1);
            due("sign(255)", new Twinreaders().sign(255), 1);
        });
        sentence("sign: how many SIGNS the DRAFT has then; -9 if it has 36 already", () -> {
            Twinreaders x = new Twinreaders();
            for (int i = 1; i <= 36; i++) {
                due("sign " + i, x.sign(64 + i), i);
            }
            due("sign 37", x.sign(65), -9);
            x.cut(1);
            due("sign into 35", x.sign(66), 36);
            Due.refused("sign(0) to 36", EdgesTest::full, y -> y.sign(0));
            Due.refused("sign(255) to 36", Due::stirred, y -> y.sign(255));
        });
        sentence("1: there are 16 PIECES; lay: sign by sign", () -> {
            String[] codes = {"97 98", "120 49 95", "48 48 55", "45 53", "34 97 32 98 34", "34", "47 47", "47 42",
                "42 47", "10", "32", "45", "34 34", "122 57 32 45 32 49 50", "47 42 97 42 47", "81 34 47 47 34"};
            for (int piece = 0; piece < 16; piece++) {
                Twinreaders x = new Twinreaders();
                String[] signs = codes[piece].split(" ");
                due("lay(" + piece + ")", x.lay(piece), signs.length);
                x.print();
                x.openWhole(5);
                for (int i = 0; i < signs.length; i++) {
                    due("sign " + i + " of piece " + piece, x.signAt(5, i), Integer.parseInt(signs[i]));
                }
            }
        });
        sentence("lay: throws if piece is not 0 to 15", () -> {
            for (int piece : new int[] {-1, 16, 17, MAX, MIN}) {
                Due.thrown("lay(" + piece + ")", Due::stirred, x -> x.lay(piece), ARGUMENT);
                Due.thrown("lay(" + piece + ") of a new one", Twinreaders::new, x -> x.lay(piece), ARGUMENT);
            }
        });
        sentence("lay: how many SIGNS the DRAFT has then; -9 if it would have more than 36", () -> {
            int[] sizes = {2, 3, 3, 2, 5, 1, 2, 2, 2, 1, 1, 1, 2, 7, 5, 5};
            for (int piece = 0; piece < 16; piece++) {
                int own = piece;
                int most = 36 - sizes[piece];
                due("lay(" + piece + ") to just 36", drafted(most).lay(piece), 36);
                Due.refused("lay(" + piece + ") to 37", () -> drafted(most + 1), x -> x.lay(own));
                Due.refused("lay(" + piece + ") to a full one", () -> drafted(36), x -> x.lay(own));
            }
        });
    }

    /** 32 codes each are told by all that tells signs. */
    private static void allCodes(int low, int reader) {
        StringBuilder text = new StringBuilder();
        for (int code = low; code < low + 32; code++) {
            text.append((char) code);
        }
        Twinreaders x = Due.on(text.toString());
        due("draft()", x.draft(), text.toString());
        due("restText()", x.restText(reader, 5), text.toString());
        due("joined()", x.joined(reader, 0, 0), text.toString());
        for (int i = 0; i < 32; i++) {
            due("signAt(" + i + ")", x.signAt(reader, i), low + i);
            due("ahead() at " + i, x.ahead(reader), low + i);
            due("read() at " + i, x.read(reader), low + i);
        }
        x.again(reader);
        for (int i = 0; i < 32; i += 8) {
            due("readTray()", x.readTray(reader, 0, 8), 8);
            due("trayText()", x.trayText(), text.substring(i, i + 8));
            for (int cell = 0; cell < 8; cell++) {
                due("tray(" + cell + ")", x.tray(cell), low + i + cell);
            }
        }
    }

    private static Twinreaders drafted(int many) {
        Twinreaders x = new Twinreaders();
        Due.type(x, FULL.substring(0, many));
        return x;
    }

    private static void draftAndCut() {
        sentence("1: the DRAFT is a row of 0 to 36 SIGNS, none at first", () -> {
            due("draft()", new Twinreaders().draft(), "");
            due("draftLength()", new Twinreaders().draftLength(), 0);
            due("draft() of 36", drafted(36).draft(), FULL);
            due("draftLength() of 36", drafted(36).draftLength(), 36);
            Twinreaders x = drafted(36);
            x.cut(36);
            due("draft() of none again", x.draft(), "");
            due("draftLength() of none again", x.draftLength(), 0);
        });
        sentence("cut: throws if many is not 0 to 36", () -> {
            for (int many : new int[] {-1, 37, 38, MAX, MIN}) {
                Due.thrown("cut(" + many + ")", Due::stirred, x -> x.cut(many), ARGUMENT);
                Due.thrown("cut(" + many + ") of a new one", Twinreaders::new, x -> x.cut(many), ARGUMENT);
            }
        });
        sentence("cut: the DRAFT's last SIGNS go; how many it has then", () -> {
            for (int many = 0; many <= 36; many++) {
                Twinreaders x = drafted(36);
                due("cut(" + many + ")", x.cut(many), 36 - many);
                due("draft() then", x.draft(), FULL.substring(0, 36 - many));
                due("draftLength() then", x.draftLength(), 36 - many);
            }
            due("cut(0) of none", new Twinreaders().cut(0), 0);
            due("cut(0) of 1", drafted(1).cut(0), 1);
            due("cut(1) of 1", drafted(1).cut(1), 0);
        });
        sentence("cut: -9 if it has fewer than many", () -> {
            Due.refused("cut(1) of none", Twinreaders::new, x -> x.cut(1));
            Due.refused("cut(36) of none", Twinreaders::new, x -> x.cut(36));
            for (int many = 1; many < 36; many++) {
                int own = many;
                Due.refused("cut of one more than " + many, () -> drafted(own), x -> x.cut(own + 1));
                due("cut of all " + many, drafted(many).cut(many), 0);
            }
            Due.refused("cut(36) of 35", () -> drafted(35), x -> x.cut(36));
        });
    }

    private static void printsAndTray() {
        sentence("1: the PRINT 0 is there at first, it has no SIGNS", () -> {
            for (int reader = 0; reader < 6; reader++) {
                Twinreaders x = new Twinreaders();
                x.lay(0);
                due("printOf()", x.printOf(reader), 0);
                due("openWhole()", x.openWhole(reader), 0);
                due("printOf() behind openWhole()", x.printOf(reader), 0);
                due("again()", x.again(reader), 0);
                due("open(0, 0)", x.open(reader, 0, 0), 0);
                due("open(0, MAX)", x.open(reader, 0, MAX), 0);
                due("printOf() behind open()", x.printOf(reader), 0);
            }
        });
        sentence("1: numbered 1, 2, 3 and so on; print: the newest one then", () -> {
            Twinreaders x = new Twinreaders();
            for (int i = 1; i <= 170; i++) {
                due("print()", x.print(), i);
                x.openWhole(i % 6);
                due("printOf()", x.printOf(i % 6), i);
            }
        });
        sentence("print: made of a DRAFT without SIGNS and of one with all 36; the DRAFT stays as it is", () -> {
            Twinreaders x = new Twinreaders();
            due("print() of none", x.print(), 1);
            due("draft()", x.draft(), "");
            due("openWhole()", x.openWhole(0), 0);
            Due.type(x, FULL);
            due("print() of 36", x.print(), 2);
            due("draft()", x.draft(), FULL);
            due("openWhole()", x.openWhole(0), 36);
            due("restText()", x.restText(0, 0), FULL);
            x.cut(36);
            due("print() of none again", x.print(), 3);
            due("openWhole()", x.openWhole(1), 0);
            due("the one of 36 is as it was", x.restText(0, 8), FULL);
        });
        sentence("1: a PRINT never changes", () -> {
            Twinreaders x = Due.on("abc");
            x.cut(2);
            x.lay(2);
            x.print();
            due("restText()", x.restText(0, 1), "abc");
            due("again()", x.again(3), 3);
            due("restText() then", x.restText(3, 1), "abc");
            due("printOf()", x.printOf(3), 1);
        });
        sentence("1: the TRAY has eight cells, at first all have the code 46", () -> {
            Twinreaders x = new Twinreaders();
            due("trayText()", x.trayText(), "........");
            for (int cell = 0; cell < 8; cell++) {
                due("tray(" + cell + ")", x.tray(cell), 46);
            }
        });
        sentence("tray: throws if cell is not 0 to 7", () -> {
            for (int cell : new int[] {-1, 8, 9, MAX, MIN}) {
                Due.thrown("tray(" + cell + ")", Due::stirred, x -> x.tray(cell), INDEX);
            }
            Twinreaders x = full();
            x.readTray(0, 0, 8);
            due("tray(0)", x.tray(0), 97);
            due("tray(7)", x.tray(7), 104);
        });
        sentence("1: the TRAY is one for all READERS", () -> {
            Twinreaders x = full();
            for (int reader = 0; reader < 6; reader++) {
                x.skip(reader, reader);
                x.readTray(reader, reader, 1);
            }
            due("trayText()", x.trayText(), "abcdef..");
            x.again(4);
            x.openWhole(5);
            x.copy(4, 5);
            due("trayText() behind what opens", x.trayText(), "abcdef..");
        });
        sentence("2: at first each READER was OPENED on the whole PRINT 0, whatever other objects did", () -> {
            Twinreaders other = Due.stirred();
            Twinreaders x = new Twinreaders();
            other.knock();
            other.readTray(1, 0, 1);
            for (int reader = 0; reader < 6; reader++) {
                due("reader " + reader, Due.state(x, reader), "0:0+0 0/0 0@0^0<>");
            }
            due("draft", x.draft(), "");
            due("trayText", x.trayText(), "........");
            due("digest", x.digest(), -6020761343747299100L);
            due("print", x.print(), 1);
        });
    }

    // ---- chapter 2, and promises 8 to 11

    private static void opening() {
        sentence("open: at most so many SIGNS; if it has fewer there, those that are there", () -> {
            int[][] all = {{0, 0, 0}, {0, 1, 1}, {0, 35, 35}, {0, 36, 36}, {0, 37, 36}, {0, MAX, 36}, {1, 0, 0},
                {1, 34, 34}, {1, 35, 35}, {1, 36, 35}, {1, MAX - 1, 35}, {20, 15, 15}, {20, 16, 16}, {20, 17, 16},
                {20, MAX - 20, 16}, {35, 0, 0}, {35, 1, 1}, {35, 2, 1}, {35, MAX - 35, 1}, {36, 0, 0}, {36, 1, 0},
                {36, 36, 0}, {36, MAX - 36, 0}};
            for (int reader = 0; reader < 6; reader++) {
                for (int[] one : all) {
                    Twinreaders x = full();
                    String call = "open(" + reader + ", " + one[0] + ", " + one[1] + ")";
                    due(call, x.open(reader, one[0], one[1]), one[2]);
                    due(call + ", state", Due.state(x, reader), "1:" + one[0] + "+" + one[2] + " 0/0 0@0^0<>");
                    due(call + ", SIGNS", x.restText(reader, 3), FULL.substring(one[0], one[0] + one[2]));
                    due(call + ", refusals", x.house(1), 0);
                }
            }
        });
        sentence("2: OPENED: PLACE 0 and MARK 0; its LAST WORD is none: KIND 0, no SIGNS, begin 0, a GAP of 0", () -> {
            for (int reader = 0; reader < 6; reader++) {
                openedFrom(reader, x -> x.nextWord(2, 0));
                openedFrom(reader, x -> x.toEnd(2, 0));
                openedFrom(reader, x -> x.skip(2, 9));
            }
        });
        sentence("openWhole: on all of the newest PRINT, without SIGNS and with all 36", () -> {
            for (int reader = 0; reader < 6; reader++) {
                Twinreaders x = full();
                due("openWhole() of 36", x.openWhole(reader), 36);
                due("restText()", x.restText(reader, 7), FULL);
                x.cut(36);
                x.print();
                due("openWhole() of none", x.openWhole(reader), 0);
                due("state", Due.state(x, reader), "2:0+0 0/0 0@0^0<>");
            }
        });
        sentence("open, openWhole: on the newest PRINT, that with the greatest number", () -> {
            Twinreaders x = Due.on("abc");
            Due.type(x, "xy");
            x.print();
            due("span() of the older one", x.span(0), 3);
            due("open()", x.open(0, 1, 9), 1);
            due("printOf()", x.printOf(0), 2);
            due("restText()", x.restText(0, 0), "y");
            due("open() behind its end", x.open(1, 3, 0), -9);
            due("openWhole()", x.openWhole(4), 2);
            due("printOf()", x.printOf(4), 2);
            due("the others stay", x.printOf(1), 1);
        });
    }

    /** A reader that took another's state is opened in three ways. */
    private static void openedFrom(int reader, Function<Twinreaders, Object> act) {
        Supplier<Twinreaders> made = () -> {
            Twinreaders x = Due.on(" ab cd  ", 1, 7);
            x.nextWord(2, 0);
            act.apply(x);
            x.copy(2, reader);
            return x;
        };
        Twinreaders x = made.get();
        x.again(reader);
        due("again()", Due.state(x, reader), "1:1+7 0/0 0@0^0<>");
        x = made.get();
        x.open(reader, 3, 2);
        due("open()", Due.state(x, reader), "1:3+2 0/0 0@0^0<>");
        x = made.get();
        x.openWhole(reader);
        due("openWhole()", Due.state(x, reader), "1:0+8 0/0 0@0^0<>");
    }

    private static void openingRefused() {
        sentence("open: -9 if from is below 0", () -> {
            for (int from : new int[] {-1, -2, -9, -36, MIN, MIN + 1}) {
                refusedOpens(from, 0);
                refusedOpens(from, 5);
                refusedOpens(from, MAX);
            }
        });
        sentence("open: -9 if from is greater than the number of the PRINT's SIGNS", () -> {
            for (int from : new int[] {4, 5, 36, 37, MAX}) {
                refusedOpens(from, 0);
                refusedOpens(from, 1);
            }
            Due.refused("open(0, 1, 0) of PRINT 0", Twinreaders::new, x -> x.open(0, 1, 0));
            Due.refused("open(0, 37, 0) of 36", EdgesTest::full, x -> x.open(0, 37, 0));
            due("open(0, 36, 0) of 36", full().open(0, 36, 0), 0);
            due("open(0, 3, 0) of 3", three().open(0, 3, 0), 0);
            // The draft is longer than the print, and no matter.
            Due.refused("open(0, 4, 0), the DRAFT has 36", () -> {
                Twinreaders x = three();
                x.lay(13);
                return x;
            }, x -> x.open(0, 4, 0));
        });
        sentence("open: -9 if many is below 0", () -> {
            for (int many : new int[] {-1, -2, -9, MIN, MIN + 1}) {
                refusedOpens(0, many);
                refusedOpens(1, many);
                refusedOpens(3, many);
            }
        });
        sentence("open: -9 if both together are more than 2147483647", () -> {
            refusedOpens(1, MAX);
            refusedOpens(2, MAX);
            refusedOpens(2, MAX - 1);
            refusedOpens(3, MAX - 2);
            refusedOpens(3, MAX);
            Due.refused("open(0, 36, MAX - 35)", EdgesTest::full, x -> x.open(0, 36, MAX - 35));
            Due.refused("open(5, 36, MAX)", EdgesTest::full, x -> x.open(5, 36, MAX));
            due("open(0, 0, MAX)", three().open(0, 0, MAX), 3);
            due("open(0, 1, MAX - 1)", three().open(0, 1, MAX - 1), 2);
            due("open(0, 2, MAX - 2)", three().open(0, 2, MAX - 2), 1);
            due("open(0, 3, MAX - 3)", three().open(0, 3, MAX - 3), 0);
        });
        sentence("open: several of these at once are one -9", () -> {
            refusedOpens(-1, -1);
            refusedOpens(MIN, MIN);
            refusedOpens(MAX, MAX);
            refusedOpens(4, -1);
            refusedOpens(-1, MAX);
        });
    }

    private static Twinreaders three() {
        return Due.on("xyz");
    }

    private static void refusedOpens(int from, int many) {
        for (int reader = 0; reader < 6; reader++) {
            int own = reader;
            String call = "open(" + own + ", " + from + ", " + many + ")";
            Due.refused(call, EdgesTest::three, x -> x.open(own, from, many));
            Due.refused(call + " of a stirred one", Due::stirred, x -> x.open(own, from, many));
        }
    }

    private static void openingAnew() {
        sentence("again: on the PRINT that it has, on the same SPAN", () -> {
            for (int reader = 0; reader < 6; reader++) {
                Twinreaders x = Due.on("abcdef", 2, 3);
                x.nextWord(reader, 0);
                Due.type(x, "z");
                x.print();
                due("again()", x.again(reader), 3);
                due("state", Due.state(x, reader), "1:2+3 0/0 0@0^0<>");
                due("restText()", x.restText(reader, 0), "cde");
                due("again() of what is opened", x.again(reader), 3);
                x.open(reader, 1, 5);
                due("again() of a SPAN without SIGNS", x.again(reader), 0);
                due("state", Due.state(x, reader), "2:1+0 0/0 0@0^0<>");
            }
        });
    }

    /** A text reader's place and mark, on a span of eight signs. */
    private static Twinreaders at(int reader, int place, int mark) {
        Twinreaders x = Due.on("##abcdefgh##", 2, 8);
        x.skip(reader, mark);
        x.mark(reader, 0);
        x.skip(reader, place - mark);
        return x;
    }

    private static void copying() {
        sentence("copy: gets the PRINT, the SPAN, the PLACE, the MARK and the LAST WORD; its PLACE", () -> {
            for (int reader = 0; reader < 6; reader++) {
                for (int into = 0; into < 6; into++) {
                    Twinreaders x = Due.on(" ab cd ef", 1, 7);
                    Due.type(x, "z");
                    x.print();
                    if (into != reader) {
                        x.openWhole(into);
                        x.nextWord(into, 0);
                    }
                    x.nextWord(reader, 0);
                    x.nextWord(reader, 0);
                    x.read(reader);
                    String call = "copy(" + reader + ", " + into + ")";
                    due(call, x.copy(reader, into), 6);
                    due(call + ", taken", Due.state(x, into), "1:1+7 6/5 1@3^1<cd>");
                    due(call + ", given", Due.state(x, reader), "1:1+7 6/5 1@3^1<cd>");
                }
            }
        });
        sentence("copy: PLACE at 0, at the MARK and at the END", () -> {
            int[][] all = {{0, 0}, {1, 0}, {8, 0}, {3, 3}, {4, 3}, {8, 3}, {8, 8}, {7, 7}, {8, 7}};
            for (int[] one : all) {
                for (int reader = 0; reader < 6; reader++) {
                    for (int into = 0; into < 6; into++) {
                        Twinreaders x = at(reader, one[0], one[1]);
                        due("copy(" + reader + ", " + into + ")", x.copy(reader, into), one[0]);
                        due("its PLACE and MARK", x.place(into) + "/" + x.marked(into), one[0] + "/" + one[1]);
                    }
                }
            }
        });
        sentence("copy: into stays a ROW READER or a TEXT READER", () -> {
            for (int reader = 0; reader < 6; reader++) {
                for (int into = 0; into < 6; into++) {
                    Twinreaders x = at(reader, 5, 2);
                    x.copy(reader, into);
                    due(into + " goes back", x.skip(into, -1), into < 3 ? 0 : -1);
                    due(into + " marks with -1", x.mark(into, -1), into < 3 ? 5 : -9);
                    due(into + " is a goal for place < mark", copiedAhead(x, into), into < 3 ? -9 : 0);
                }
            }
        });
        sentence("copy: the two go their own ways then", () -> {
            for (int reader = 0; reader < 6; reader++) {
                int into = (reader + 1) % 6;
                Twinreaders x = Due.on("ab cd ef");
                x.nextWord(reader, 0);
                x.copy(reader, into);
                x.nextWord(reader, 0);
                due("the one that got it", Due.state(x, into), "1:0+8 2/2 1@0^0<ab>");
                x.toEnd(into, 0);
                due("the one that gave it", Due.state(x, reader), "1:0+8 5/5 1@3^1<cd>");
                x.open(into, 1, 1);
                due("behind open()", Due.state(x, reader), "1:0+8 5/5 1@3^1<cd>");
            }
        });
    }

    private static int copiedAhead(Twinreaders x, int into) {
        int from = into == 5 ? 4 : 5;
        x.openWhole(from);
        x.skip(from, 3);
        x.mark(from, 0);
        x.skip(from, -3);
        return x.copy(from, into);
    }

    private static void copyingRefused() {
        sentence("copy: -9 if into is a ROW READER and the PLACE is less than the MARK", () -> {
            int[][] all = {{0, 1}, {0, 7}, {2, 3}, {6, 7}, {1, 5}};
            for (int[] one : all) {
                for (int reader = 3; reader < 6; reader++) {
                    int own = reader;
                    for (int row = 0; row < 3; row++) {
                        int into = row;
                        Due.refused("copy(" + own + ", " + into + ")", () -> at(own, one[0], one[1]),
                                x -> x.copy(own, into));
                    }
                    for (int into = 3; into < 6; into++) {
                        Twinreaders x = at(own, one[0], one[1]);
                        due("copy(" + own + ", " + into + ")", x.copy(own, into), one[0]);
                        due("its PLACE and MARK", x.place(into) + "/" + x.marked(into), one[0] + "/" + one[1]);
                        due("refusals", x.house(1), 0);
                    }
                }
            }
        });
        sentence("copy: only the PLACE and MARK of what is taken count", () -> {
            Twinreaders x = at(4, 1, 5);
            due("copy(3, 4), 4 is ahead of its MARK", x.copy(3, 4), 0);
            x = at(4, 1, 5);
            due("copy(0, 4)", x.copy(0, 4), 0);
            due("copy(4, 0) then", x.copy(4, 0), 0);
            Due.refused("copy(3, 0) of a stirred one", Due::stirred, y -> y.copy(3, 0));
            Due.refused("copy(3, 2) of a stirred one", Due::stirred, y -> y.copy(3, 2));
        });
        sentence("copy: the same READER gets what it has", () -> {
            for (int reader = 0; reader < 6; reader++) {
                Twinreaders x = at(reader, 6, 4);
                String was = Due.state(x, reader);
                due("copy()", x.copy(reader, reader), 6);
                due("state", Due.state(x, reader), was);
            }
            Twinreaders x = at(3, 2, 4);
            due("copy(3, 3), PLACE less than MARK", x.copy(3, 3), 2);
        });
    }

    // ---- promises 12 to 16

    private static void reading() {
        sentence("read: PLACE goes on by one; at the END it stays; -1 at the END", () -> {
            for (int reader = 0; reader < 6; reader++) {
                Twinreaders x = Due.on("xabcx", 1, 3);
                due("read at 0", x.read(reader), 97);
                due("place", x.place(reader), 1);
                due("read", x.read(reader), 98);
                due("read of the last one", x.read(reader), 99);
                due("place, the END", x.place(reader), 3);
                due("read at the END", x.read(reader), -1);
                due("place, the END", x.place(reader), 3);
                due("read at the END again", x.read(reader), -1);
                due("place and mark", x.place(reader) + "/" + x.marked(reader), "3/0");
            }
        });
        sentence("read: 36 SIGNS", () -> {
            for (int reader = 0; reader < 6; reader++) {
                Twinreaders x = full();
                for (int i = 0; i < 36; i++) {
                    due("read " + i, x.read(reader), (int) FULL.charAt(i));
                }
                due("read 36", x.read(reader), -1);
                due("place", x.place(reader), 36);
            }
        });
    }

    private static void readingIntoTray() {
        sentence("readTray: throws if from is not 0 to 8, or many is not 0 to 8 - from", () -> {
            int[] odd = {-2, -1, 0, 1, 2, 3, 4, 5, 6, 7, 8, 9, 10, MAX, MAX - 1, MAX - 7, MAX - 8, MIN, MIN + 1};
            for (int from : odd) {
                for (int many : odd) {
                    boolean allowed = from >= 0 && from <= 8 && many >= 0 && many <= 8L - from;
                    String call = "readTray(0, " + from + ", " + many + ")";
                    if (allowed) {
                        due(call, full().readTray(0, from, many), many);
                    } else {
                        Due.thrown(call, EdgesTest::full, x -> x.readTray(0, from, many), INDEX);
                        Due.thrown(call + " at the END", Twinreaders::new, x -> x.readTray(3, from, many), INDEX);
                    }
                }
            }
        });
        sentence("readTray: into the cell from and the next ones; all other cells stay as they were", () -> {
            for (int from = 0; from <= 8; from++) {
                for (int many = 0; many <= 8 - from; many++) {
                    for (int reader = 0; reader < 6; reader++) {
                        Twinreaders x = Due.on("abcdefghijkl", 1, 10);
                        due("readTray", x.readTray(reader, from, many), many);
                        due("trayText", x.trayText(), ".".repeat(from) + "bcdefghi".substring(0, many)
                                + ".".repeat(8 - from - many));
                        due("place and mark", x.place(reader) + "/" + x.marked(reader), many + "/0");
                    }
                }
            }
        });
        sentence("readTray: as many as are wanted, or as are there up to the END", () -> {
            for (int there = 1; there <= 8; there++) {
                for (int many = 0; many <= 8; many++) {
                    for (int reader = 0; reader < 6; reader++) {
                        Twinreaders x = Due.on("abcdefghijkl", 2, there);
                        int got = Math.min(there, many);
                        due(many + " of " + there, x.readTray(reader, 0, many), got);
                        due("trayText", x.trayText(), "cdefghij".substring(0, got) + ".".repeat(8 - got));
                        due("place", x.place(reader), got);
                    }
                }
            }
        });
        sentence("readTray: 0 if many is 0, at the END, too", () -> {
            for (int reader = 0; reader < 6; reader++) {
                for (int from = 0; from <= 8; from++) {
                    due("at the END", at(reader, 8, 3).readTray(reader, from, 0), 0);
                    due("at 0", at(reader, 0, 0).readTray(reader, from, 0), 0);
                    due("of a SPAN without SIGNS", new Twinreaders().readTray(reader, from, 0), 0);
                }
            }
        });
        sentence("readTray: -1 if many is not 0 and PLACE was the END", () -> {
            for (int reader = 0; reader < 6; reader++) {
                for (int from = 0; from < 8; from++) {
                    for (int many = 1; many <= 8 - from; many++) {
                        Twinreaders x = at(reader, 8, 3);
                        x.copy(reader, (reader + 1) % 6);
                        x.openWhole(reader);
                        x.readTray(reader, 0, 8);
                        x.copy((reader + 1) % 6, reader);
                        due("readTray", x.readTray(reader, from, many), -1);
                        due("the TRAY stays", x.trayText(), "##abcdef");
                        due("place and mark", x.place(reader) + "/" + x.marked(reader), "8/3");
                        due("of a SPAN without SIGNS", new Twinreaders().readTray(reader, from, many), -1);
                    }
                }
            }
        });
        sentence("readTray: the last SIGN, then -1", () -> {
            for (int reader = 0; reader < 6; reader++) {
                Twinreaders x = at(reader, 7, 7);
                due("8 wanted, one there", x.readTray(reader, 0, 8), 1);
                due("trayText", x.trayText(), "h.......");
                due("then", x.readTray(reader, 0, 8), -1);
                due("trayText", x.trayText(), "h.......");
            }
        });
    }

    private static void skipping() {
        sentence("skip: many is 0 or more: many, or up to the END, if that is less far", () -> {
            for (int reader = 0; reader < 6; reader++) {
                for (int place = 0; place <= 8; place++) {
                    for (int many : new int[] {0, 1, 2, 7, 8, 9, 36, MAX, MAX - 1, MAX - 8}) {
                        Twinreaders x = at(reader, place, 0);
                        int far = Math.min(many, 8 - place);
                        due("skip(" + many + ") at " + place, x.skip(reader, many), far);
                        due("place and mark", x.place(reader) + "/" + x.marked(reader), place + far + "/0");
                        due("refusals", x.house(1), 0);
                    }
                }
            }
        });
        sentence("skip: many is below 0: of a ROW READER 0", () -> {
            for (int reader = 0; reader < 3; reader++) {
                for (int place = 0; place <= 8; place++) {
                    for (int many : new int[] {-1, -2, -8, -9, MIN, MIN + 1}) {
                        Twinreaders x = at(reader, place, 0);
                        due("skip(" + many + ") at " + place, x.skip(reader, many), 0);
                        due("place", x.place(reader), place);
                    }
                }
            }
        });
        sentence("skip: many is below 0: of a TEXT READER 0, if PLACE is the END", () -> {
            for (int reader = 3; reader < 6; reader++) {
                for (int many : new int[] {-1, -2, -7, -8, -9, MIN, MIN + 1}) {
                    Twinreaders x = at(reader, 8, 2);
                    due("skip(" + many + ")", x.skip(reader, many), 0);
                    due("place and mark", x.place(reader) + "/" + x.marked(reader), "8/2");
                    due("of a SPAN without SIGNS", new Twinreaders().skip(reader, many), 0);
                }
            }
        });
        sentence("skip: many is below 0: of a TEXT READER many, or back to 0, if that is less far", () -> {
            for (int reader = 3; reader < 6; reader++) {
                for (int place = 0; place < 8; place++) {
                    for (int many : new int[] {-1, -2, -6, -7, -8, -9, MIN, MIN + 1}) {
                        Twinreaders x = at(reader, place, 5);
                        int far = Math.max(many, -place);
                        due("skip(" + many + ") at " + place, x.skip(reader, many), far);
                        due("place and mark", x.place(reader) + "/" + x.marked(reader), place + far + "/5");
                    }
                }
            }
        });
        sentence("skip: this can be -9, too; that is a number like others", () -> {
            for (int reader = 3; reader < 6; reader++) {
                for (int[] one : new int[][] {{9, -10}, {9, MIN}, {9, -9}, {10, -9}, {35, -9}}) {
                    Twinreaders x = full();
                    x.skip(reader, one[0]);
                    int acts = x.house(0);
                    due("skip", x.skip(reader, one[1]), -9);
                    due("place", x.place(reader), one[0] - 9);
                    due("acts", x.house(0), acts + 1);
                    due("refusals", x.house(1), 0);
                }
            }
        });
        sentence("skip: a row of 36 from 0 to the END and back", () -> {
            for (int reader = 0; reader < 6; reader++) {
                Twinreaders x = full();
                due("skip(35)", x.skip(reader, 35), 35);
                due("skip(-35)", x.skip(reader, -35), reader < 3 ? 0 : -35);
                due("skip(36)", x.skip(reader, 36), reader < 3 ? 1 : 36);
                due("skip(-36)", x.skip(reader, -36), 0);
                due("place", x.place(reader), 36);
            }
        });
    }

    private static void marking() {
        sentence("mark: the MARK comes to PLACE: at 0, behind the MARK, ahead of it, at it and at the END", () -> {
            int[][] all = {{0, 0}, {3, 0}, {3, 3}, {8, 0}, {8, 3}, {8, 8}, {0, 3}, {2, 3}};
            for (int[] one : all) {
                for (int reader = one[0] < one[1] ? 3 : 0; reader < 6; reader++) {
                    Twinreaders x = at(reader, one[0], one[1]);
                    due("mark", x.mark(reader, 0), one[0]);
                    due("place and mark", x.place(reader) + "/" + x.marked(reader), one[0] + "/" + one[0]);
                }
            }
        });
        sentence("mark: nothing hangs on limit but what is told next", () -> {
            for (int limit : new int[] {0, 1, 2, 36, 37, MAX, MAX - 1}) {
                for (int reader = 0; reader < 6; reader++) {
                    Twinreaders x = at(reader, 3, 0);
                    due("mark with " + limit, x.mark(reader, limit), 3);
                    x.skip(reader, 5);
                    due("reset, further on than the limit", x.reset(reader), 3);
                }
            }
        });
        sentence("mark: -9 if it is a TEXT READER and limit is below 0", () -> {
            for (int limit : new int[] {-1, -2, -9, MIN, MIN + 1}) {
                for (int reader = 0; reader < 3; reader++) {
                    Twinreaders x = at(reader, 3, 1);
                    due("mark(" + reader + ", " + limit + ")", x.mark(reader, limit), 3);
                    due("marked", x.marked(reader), 3);
                    due("refusals", x.house(1), 0);
                }
                for (int reader = 3; reader < 6; reader++) {
                    int own = reader;
                    String call = "mark(" + own + ", " + limit + ")";
                    Due.refused(call, () -> at(own, 3, 1), x -> x.mark(own, limit));
                    Due.refused(call + " at the MARK", () -> at(own, 3, 3), x -> x.mark(own, limit));
                    Due.refused(call + " at the END", () -> at(own, 8, 3), x -> x.mark(own, limit));
                    Due.refused(call + " without SIGNS", Twinreaders::new, x -> x.mark(own, limit));
                }
            }
        });
        sentence("reset: PLACE goes to the MARK, which stays: behind it, at it, ahead of it, at the END", () -> {
            int[][] all = {{0, 0}, {3, 0}, {3, 3}, {8, 0}, {8, 3}, {8, 8}, {0, 3}, {2, 3}, {0, 7}};
            for (int[] one : all) {
                for (int reader = one[0] < one[1] ? 3 : 0; reader < 6; reader++) {
                    Twinreaders x = at(reader, one[0], one[1]);
                    due("reset", x.reset(reader), one[1]);
                    due("place and mark", x.place(reader) + "/" + x.marked(reader), one[1] + "/" + one[1]);
                    due("read then", x.read(reader), one[1] == 8 ? -1 : 97 + one[1]);
                }
            }
        });
    }

    // ---- places and acts, all together

    private static final String[] ACTS = {"read", "readTray", "skip 2", "skip -2", "skip MAX", "skip MIN", "mark",
        "reset", "again", "openWhole", "nextWord", "toEnd", "nothing"};

    private static int act(Twinreaders x, int reader, int which) {
        switch (which) {
            case 0:
                return x.read(reader);
            case 1:
                return x.readTray(reader, 0, 3);
            case 2:
                return x.skip(reader, 2);
            case 3:
                return x.skip(reader, -2);
            case 4:
                return x.skip(reader, MAX);
            case 5:
                return x.skip(reader, MIN);
            case 6:
                return x.mark(reader, 0);
            case 7:
                return x.reset(reader);
            case 8:
                return x.again(reader);
            case 9:
                return x.openWhole(reader);
            case 10:
                return x.nextWord(reader, 4);
            case 11:
                return x.toEnd(reader, 0);
            default:
                return x.copy(reader, reader);
        }
    }

    /** Place, mark; then of each act its answer, the place and the mark behind it. */
    private static final String[][] ROWS = {
        {"0/0", "97 1/0", "3 3/0", "2 2/0", "0 0/0", "8 8/0", "0 0/0", "0 0/0", "0 0/0", "8 0/0", "12 0/0", "1 8/8",
            "1 8/8", "0 0/0"},
        {"2/2", "99 3/2", "3 5/2", "2 4/2", "0 2/2", "6 8/2", "0 2/2", "2 2/2", "2 2/2", "8 0/0", "12 0/0", "1 8/8",
            "1 8/8", "2 2/2"},
        {"6/2", "103 7/2", "2 8/2", "2 8/2", "0 6/2", "2 8/2", "0 6/2", "6 6/6", "2 2/2", "8 0/0", "12 0/0", "1 8/8",
            "1 8/8", "6 6/2"},
        {"7/0", "104 8/0", "1 8/0", "1 8/0", "0 7/0", "1 8/0", "0 7/0", "7 7/7", "0 0/0", "8 0/0", "12 0/0", "1 8/8",
            "1 8/8", "7 7/0"},
        {"8/0", "-1 8/0", "-1 8/0", "0 8/0", "0 8/0", "0 8/0", "0 8/0", "8 8/8", "0 0/0", "8 0/0", "12 0/0", "0 8/8",
            "0 8/8", "8 8/0"},
        {"8/8", "-1 8/8", "-1 8/8", "0 8/8", "0 8/8", "0 8/8", "0 8/8", "8 8/8", "8 8/8", "8 0/0", "12 0/0", "0 8/8",
            "0 8/8", "8 8/8"}};

    private static final String[][] TEXTS = {
        {"0/0", "97 1/0", "3 3/0", "2 2/0", "0 0/0", "8 8/0", "0 0/0", "0 0/0", "0 0/0", "8 0/0", "12 0/0", "1 8/8",
            "1 8/8", "0 0/0"},
        {"2/2", "99 3/2", "3 5/2", "2 4/2", "-2 0/2", "6 8/2", "-2 0/2", "2 2/2", "2 2/2", "8 0/0", "12 0/0", "1 8/8",
            "1 8/8", "2 2/2"},
        {"6/2", "103 7/2", "2 8/2", "2 8/2", "-2 4/2", "2 8/2", "-6 0/2", "6 6/6", "2 2/2", "8 0/0", "12 0/0",
            "1 8/8", "1 8/8", "6 6/2"},
        {"7/0", "104 8/0", "1 8/0", "1 8/0", "-2 5/0", "1 8/0", "-7 0/0", "7 7/7", "0 0/0", "8 0/0", "12 0/0",
            "1 8/8", "1 8/8", "7 7/0"},
        {"8/0", "-1 8/0", "-1 8/0", "0 8/0", "0 8/0", "0 8/0", "0 8/0", "8 8/8", "0 0/0", "8 0/0", "12 0/0", "0 8/8",
            "0 8/8", "8 8/0"},
        {"8/8", "-1 8/8", "-1 8/8", "0 8/8", "0 8/8", "0 8/8", "0 8/8", "8 8/8", "8 8/8", "8 0/0", "12 0/0", "0 8/8",
            "0 8/8", "8 8/8"},
        {"1/3", "98 2/3", "3 4/3", "2 3/3", "-1 0/3", "7 8/3", "-1 0/3", "1 1/1", "3 3/3", "8 0/0", "12 0/0", "1 8/8",
            "1 8/8", "1 1/3"},
        {"0/7", "97 1/7", "3 3/7", "2 2/7", "0 0/7", "8 8/7", "0 0/7", "0 0/0", "7 7/7", "8 0/0", "12 0/0", "1 8/8",
            "1 8/8", "0 0/7"}};

    private static void placesAndActs() {
        sentence("2: PLACE is moved by read, readTray, skip, reset, nextWord, toEnd, the MARK by mark, nextWord, toEnd;"
                + " both by what opens", () -> {
            for (int reader = 0; reader < 6; reader++) {
                for (String[] row : reader < 3 ? ROWS : TEXTS) {
                    String[] told = row[0].split("/");
                    for (int which = 0; which < ACTS.length; which++) {
                        Twinreaders x = at(reader, Integer.parseInt(told[0]), Integer.parseInt(told[1]));
                        due(row[0], x.place(reader) + "/" + x.marked(reader), row[0]);
                        int other = (reader + 5) % 6;
                        String was = Due.state(x, other);
                        String got = act(x, reader, which) + " " + x.place(reader) + "/" + x.marked(reader);
                        due(ACTS[which] + " of reader " + reader + " at " + row[0], got, row[1 + which]);
                        due("another READER", Due.state(x, other), was);
                    }
                }
            }
        });
        sentence("2: 0, 1, 2 are ROW READERS, 3, 4, 5 are TEXT READERS", () -> {
            for (int reader = 0; reader < 6; reader++) {
                due("skip(-1) of " + reader, at(reader, 4, 0).skip(reader, -1), reader < 3 ? 0 : -1);
                due("mark(-1) of " + reader, at(reader, 4, 0).mark(reader, -1), reader < 3 ? 4 : -9);
            }
        });
        sentence("2: each READER goes its own way", () -> {
            Twinreaders x = full();
            for (int reader = 0; reader < 6; reader++) {
                x.open(reader, reader, 10 + reader);
                x.skip(reader, reader);
                x.mark(reader, 0);
                x.read(reader);
            }
            for (int reader = 0; reader < 6; reader++) {
                due("state", Due.state(x, reader), "1:" + reader + "+" + (10 + reader) + " " + (reader + 1) + "/"
                        + reader + " 0@0^0<>");
            }
        });
    }

    /** Objects in which no reader's span has signs. */
    private static List<Supplier<Twinreaders>> empties() {
        List<Supplier<Twinreaders>> all = new ArrayList<>();
        all.add(Twinreaders::new);
        all.add(() -> Due.on(""));
        all.add(() -> Due.on("ab\"5", 0, 0));
        all.add(() -> Due.on("ab\"5", 2, 0));
        all.add(() -> Due.on("ab\"5", 4, 0));
        all.add(() -> Due.on("ab\"5", 4, 9));
        all.add(() -> Due.on(FULL, 36, MAX - 36));
        return all;
    }

    private static void withoutSigns() {
        sentence("2: a SPAN without SIGNS: its acts", () -> {
            for (Supplier<Twinreaders> made : empties()) {
                for (int reader = 0; reader < 6; reader++) {
                    Twinreaders x = made.get();
                    int print = x.printOf(reader);
                    int begin = x.begin(reader);
                    due("read", x.read(reader), -1);
                    due("readTray of 0", x.readTray(reader, 8, 0), 0);
                    due("readTray of 8", x.readTray(reader, 0, 8), -1);
                    for (int many : new int[] {0, 1, -1, -9, 36, MAX, MIN}) {
                        due("skip", x.skip(reader, many), 0);
                    }
                    due("mark", x.mark(reader, 0), 0);
                    due("reset", x.reset(reader), 0);
                    due("again", x.again(reader), 0);
                    for (int size = 0; size <= 8; size++) {
                        due("nextWord", x.nextWord(reader, size), 0);
                        due("toEnd", x.toEnd(reader, size), 0);
                    }
                    due("copy", x.copy(reader, (reader + 3) % 6), 0);
                    due("state", Due.state(x, reader), print + ":" + begin + "+0 0/0 0@0^0<>");
                    due("trayText", x.trayText(), "........");
                    due("refusals", x.house(1), 0);
                    due("words read", x.house(2), 0);
                }
            }
        });
        sentence("2: a SPAN without SIGNS: what is asked", () -> {
            for (Supplier<Twinreaders> made : empties()) {
                for (int reader = 0; reader < 6; reader++) {
                    emptyAsked(made.get(), reader);
                }
            }
        });
        sentence("2: a rest without SIGNS", () -> {
            for (int reader = 0; reader < 6; reader++) {
                Twinreaders x = at(reader, 8, 2);
                int own = reader;
                due("rest", x.rest(reader), 0);
                due("ahead", x.ahead(reader), -1);
                due("ready", Due.of(() -> x.ready(own)), STATE);
                due("alike with itself", x.alike(reader, reader), 0);
                due("alike with another", x.alike(reader, (reader + 1) % 6), 0);
                due("alike, turned", x.alike((reader + 1) % 6, reader), 0);
                for (int size = 0; size <= 8; size++) {
                    due("restText", x.restText(reader, size), "");
                }
                due("place and mark", x.place(reader) + "/" + x.marked(reader), "8/2");
                due("signAt", x.signAt(reader, 7), 104);
            }
        });
    }

    private static void emptyAsked(Twinreaders x, int reader) {
        due("rest", x.rest(reader), 0);
        due("span", x.span(reader), 0);
        due("place", x.place(reader), 0);
        due("marked", x.marked(reader), 0);
        due("ahead", x.ahead(reader), -1);
        due("ready", Due.of(() -> x.ready(reader)), STATE);
        due("signAt(0)", x.signAt(reader, 0), -1);
        due("signAt(35)", x.signAt(reader, 35), -1);
        for (int other = 0; other < 6; other++) {
            due("alike", x.alike(reader, other), 0);
        }
        for (int size = 0; size <= 8; size++) {
            due("restText", x.restText(reader, size), "");
            due("sameWords", x.sameWords(reader, (reader + 4) % 6, size), true);
            for (int door = 0; door < 2; door++) {
                due("words", x.words(reader, door, size), 0);
                due("kinds", x.kinds(reader, door, size), "");
                due("wordFrom", x.wordFrom(reader, 0, door, size), -1);
                due("wordText", x.wordText(reader, 0, door, size), "");
                due("wordValue", x.wordValue(reader, 35, door, size), 0);
                due("inside", x.inside(reader, 0, door, size), "");
                due("isOpen", x.isOpen(reader, door, size), false);
                due("joined", x.joined(reader, door, size), "");
            }
        }
        due("lastKind", x.lastKind(reader), 0);
        due("lastText", x.lastText(reader), "");
        due("lastFrom", x.lastFrom(reader), 0);
        due("lastGap", x.lastGap(reader), 0);
        due("isSound", x.isSound(), true);
    }

    // ---- promises 17 to 29

    private static void askingReaders() {
        sentence("ready: true, always; throws if PLACE is the END", () -> {
            for (int reader = 0; reader < 6; reader++) {
                int own = reader;
                for (int place = 0; place < 8; place++) {
                    int there = place;
                    Due.asked("ready at " + place, () -> at(own, there, 0), x -> x.ready(own), true);
                }
                Due.thrown("ready at the END", () -> at(own, 8, 0), x -> x.ready(own), STATE);
                Due.thrown("ready at the END, the MARK", () -> at(own, 8, 8), x -> x.ready(own), STATE);
                Due.thrown("ready without SIGNS", Twinreaders::new, x -> x.ready(own), STATE);
                Due.thrown("ready of a SPAN's END", () -> Due.on("abc", 1, 0), x -> x.ready(own), STATE);
            }
        });
        sentence("ahead: the code of the SIGN at PLACE; -1 at the END", () -> {
            for (int reader = 0; reader < 6; reader++) {
                int own = reader;
                for (int place = 0; place <= 8; place++) {
                    int there = place;
                    Due.asked("ahead at " + place, () -> at(own, there, 0), x -> x.ahead(own),
                            place < 8 ? 97 + place : -1);
                }
            }
        });
        sentence("rest: how many SIGNS there are from PLACE up to the END", () -> {
            for (int reader = 0; reader < 6; reader++) {
                int own = reader;
                for (int place = 0; place <= 8; place++) {
                    int there = place;
                    Due.asked("rest at " + place, () -> at(own, there, 0), x -> x.rest(own), 8 - place);
                }
                due("rest of 36", full().rest(reader), 36);
            }
        });
        sentence("2: goes back: PLACE and MARK are as they were ahead of it", () -> {
            int[][] all = {{0, 0}, {5, 2}, {5, 5}, {8, 2}, {8, 8}, {2, 5}, {0, 7}};
            for (int[] one : all) {
                for (int reader = one[0] < one[1] ? 3 : 0; reader < 6; reader++) {
                    Twinreaders x = at(reader, one[0], one[1]);
                    int other = (reader + 1) % 6;
                    String was = Due.state(x, reader) + Due.state(x, other);
                    x.ahead(reader);
                    due("behind ahead", Due.state(x, reader) + Due.state(x, other), was);
                    x.rest(reader);
                    due("behind rest", Due.state(x, reader) + Due.state(x, other), was);
                    for (int size = 0; size <= 8; size++) {
                        x.restText(reader, size);
                        due("behind restText", Due.state(x, reader) + Due.state(x, other), was);
                    }
                    x.alike(reader, other);
                    x.alike(other, reader);
                    x.alike(reader, reader);
                    due("behind alike", Due.state(x, reader) + Due.state(x, other), was);
                }
            }
        });
        sentence("restText: the SIGNS from PLACE up to the END; throws if size is not 0 to 8", () -> {
            for (int reader = 0; reader < 6; reader++) {
                int own = reader;
                for (int size = 0; size <= 8; size++) {
                    for (int place = 0; place <= 8; place++) {
                        due("restText", at(own, place, 0).restText(own, size), "abcdefgh".substring(place));
                    }
                    due("restText of 36", full().restText(own, size), FULL);
                }
                for (int size : new int[] {-1, 9, 10, MAX, MIN}) {
                    Due.thrown("restText", Due::stirred, x -> x.restText(own, size), ARGUMENT);
                    Due.thrown("restText at the END", () -> at(own, 8, 0), x -> x.restText(own, size), ARGUMENT);
                }
            }
        });
    }

    private static void askingSigns() {
        sentence("signAt: -1 if the SPAN has no more than at SIGNS", () -> {
            for (int reader = 0; reader < 6; reader++) {
                for (int place : new int[] {0, 4, 8}) {
                    Twinreaders x = at(reader, place, 0);
                    for (int i = 0; i < 36; i++) {
                        due("signAt(" + i + ")", x.signAt(reader, i), i < 8 ? 97 + i : -1);
                    }
                }
                due("signAt(35) of 36", full().signAt(reader, 35), 57);
                due("signAt(35) of 35", Due.on(FULL, 1, 35).signAt(reader, 35), -1);
                due("signAt(34) of 35", Due.on(FULL, 1, 35).signAt(reader, 34), 57);
            }
        });
        sentence("signAt: throws if at is not 0 to 35", () -> {
            for (int at : new int[] {-1, 36, 37, -2, MAX, MIN}) {
                for (int reader = 0; reader < 6; reader++) {
                    int own = reader;
                    Due.thrown("signAt", EdgesTest::full, x -> x.signAt(own, at), INDEX);
                    Due.thrown("signAt of a SPAN", () -> Due.on(FULL, 2, 3), x -> x.signAt(own, at), INDEX);
                }
            }
        });
        sentence("2: place 0 is the begin of the SPAN; the SIGN at p is that of the PRINT at begin + p", () -> {
            for (int begin = 0; begin <= 36; begin++) {
                int reader = begin % 6;
                Twinreaders x = full();
                x.open(reader, begin, 36);
                due("begin", x.begin(reader), begin);
                due("span", x.span(reader), 36 - begin);
                due("signAt(0)", x.signAt(reader, 0), begin == 36 ? -1 : (int) FULL.charAt(begin));
                due("read", x.read(reader), begin == 36 ? -1 : (int) FULL.charAt(begin));
            }
        });
    }

    /** Reader 1 is on the span of one text, reader 4 on that of another print's. */
    private static Twinreaders twoOn(String one, String two) {
        Twinreaders x = Due.on(one);
        Due.type(x, two);
        x.print();
        x.openWhole(4);
        return x;
    }

    private static void askingTwo() {
        sentence("alike: ahead of the first that are unlike and of the END of either", () -> {
            String[][] all = {{"", "", "0"}, {"", "a", "0"}, {"a", "a", "1"}, {"a", "b", "0"}, {"a", "ab", "1"},
                {"abc", "abd", "2"}, {"abcd", "abxd", "2"}, {"xbcd", "abcd", "0"}, {FULL, FULL, "36"},
                {FULL, FULL.substring(0, 35), "35"}, {FULL, FULL.substring(0, 35) + "x", "35"}, {" ", "\n", "0"},
                {"\u0000", "", "0"}, {"\u0000", "\u0000", "1"}, {"\u00ff", "", "0"}, {"a\u00ff", "a", "1"}};
            for (String[] one : all) {
                due(one[0] + " and " + one[1], twoOn(one[0], one[1]).alike(1, 4), Integer.parseInt(one[2]));
                due(one[1] + " and " + one[0], twoOn(one[0], one[1]).alike(4, 1), Integer.parseInt(one[2]));
            }
        });
        sentence("alike: from each one's own PLACE on, up to the END of its own SPAN", () -> {
            Twinreaders x = Due.on("abcabcabc");
            x.skip(4, 3);
            due("3 on", x.alike(1, 4), 6);
            due("3 on, turned", x.alike(4, 1), 6);
            x.skip(4, 1);
            due("4 on", x.alike(1, 4), 0);
            x.open(1, 0, 2);
            x.open(4, 3, 3);
            due("up to the END of 1", x.alike(1, 4), 2);
            due("up to the END of 1, turned", x.alike(4, 1), 2);
            x.skip(1, 2);
            due("at the END of 1", x.alike(1, 4), 0);
            due("at the END of 1, turned", x.alike(4, 1), 0);
        });
        sentence("alike: if both are the same READER, it is rest() of it", () -> {
            for (int reader = 0; reader < 6; reader++) {
                for (int place = 0; place <= 8; place++) {
                    due("alike", at(reader, place, 0).alike(reader, reader), 8 - place);
                }
                due("alike of 36", full().alike(reader, reader), 36);
            }
        });
        sentence("place, marked, begin, span, printOf: the least and the greatest", () -> {
            for (int reader = 0; reader < 6; reader++) {
                Twinreaders x = full();
                x.skip(reader, 36);
                x.mark(reader, 0);
                due("the greatest place and mark", Due.state(x, reader), "1:0+36 36/36 0@0^0<>");
                x.open(reader, 36, 0);
                due("the greatest begin, no SIGNS", Due.state(x, reader), "1:36+0 0/0 0@0^0<>");
                x.open(reader, 35, 1);
                due("the last SIGN", Due.state(x, reader), "1:35+1 0/0 0@0^0<>");
                due("the last SIGN", x.read(reader), 57);
            }
        });
    }

    // ---- chapter 4, and promises 45 and 46

    private static List<Function<Twinreaders, Object>> idleActs(int reader) {
        List<Function<Twinreaders, Object>> all = new ArrayList<>();
        all.add(x -> x.cut(0));
        all.add(x -> x.read(reader));
        all.add(x -> x.readTray(reader, 0, 0));
        all.add(x -> x.readTray(reader, 0, 8));
        all.add(x -> x.skip(reader, 0));
        all.add(x -> x.skip(reader, 7));
        all.add(x -> x.skip(reader, -7));
        all.add(x -> x.mark(reader, 0));
        all.add(x -> x.reset(reader));
        all.add(x -> x.copy(reader, reader));
        all.add(x -> x.nextWord(reader, 0));
        all.add(x -> x.toEnd(reader, 8));
        all.add(x -> x.again(reader));
        all.add(x -> x.open(reader, 0, 0));
        all.add(x -> x.openWhole(reader));
        return all;
    }

    private static List<Function<Twinreaders, Object>> goodActs(int reader) {
        List<Function<Twinreaders, Object>> all = new ArrayList<>();
        all.add(x -> x.sign(65));
        all.add(x -> x.lay(13));
        all.add(x -> x.cut(2));
        all.add(x -> x.print());
        all.add(x -> x.open(reader, 1, 3));
        all.add(x -> x.openWhole(reader));
        all.add(x -> x.again(reader));
        all.add(x -> x.copy(reader, 5 - reader));
        all.add(x -> x.read(reader));
        all.add(x -> x.readTray(reader, 0, 2));
        all.add(x -> x.skip(reader, 1));
        all.add(x -> x.skip(reader, -1));
        all.add(x -> x.mark(reader, 0));
        all.add(x -> x.reset(reader));
        all.add(x -> x.nextWord(reader, 0));
        all.add(x -> x.toEnd(reader, 0));
        return all;
    }

    private static void countingActs() {
        sentence("4: ACTS are calls of these", () -> {
            for (int reader = 0; reader < 6; reader++) {
                Twinreaders x = Due.on("ab 5 \"c\" 7 8");
                int acts = 12 + 1 + 1 + 6;
                due("ACTS", x.house(0), acts);
                for (Function<Twinreaders, Object> act : goodActs(reader)) {
                    act.apply(x);
                    acts++;
                    due("ACTS", x.house(0), acts);
                    due("refusals", x.house(1), 0);
                }
            }
        });
        sentence("4: those that leave all as it was are, too; so are those that tell -1", () -> {
            for (int reader = 0; reader < 6; reader++) {
                Twinreaders x = new Twinreaders();
                int acts = 0;
                for (Function<Twinreaders, Object> act : idleActs(reader)) {
                    act.apply(x);
                    acts++;
                    due("ACTS", x.house(0), acts);
                }
                due("refusals", x.house(1), 0);
                due("words read", x.house(2), 0);
            }
        });
        sentence("toEnd: it is one ACT", () -> {
            for (int reader = 0; reader < 6; reader++) {
                Twinreaders x = Due.on("; ".repeat(18));
                int acts = x.house(0);
                due("toEnd", x.toEnd(reader, 3), 18);
                due("ACTS", x.house(0), acts + 1);
                due("words read", x.house(2), 18);
            }
        });
        sentence("4: a call that told -9 or threw is no ACT", () -> {
            Twinreaders x = new Twinreaders();
            x.cut(1);
            x.open(0, 1, 0);
            x.mark(3, -1);
            Due.of(() -> x.sign(-1));
            Due.of(() -> x.read(6));
            Due.of(() -> x.ready(0));
            due("ACTS", x.house(0), 0);
            due("refusals", x.house(1), 3);
        });
    }

    private static void countingRefusals() {
        sentence("4: -9 is told for what could not be done by sign, lay, cut, open, copy and mark", () -> {
            Twinreaders x = Due.stirred();
            int before = x.house(1);
            int acts = x.house(0);
            due("sign", x.sign(0), -9);
            due("house(1)", x.house(1), before + 1);
            due("lay", x.lay(9), -9);
            due("house(1)", x.house(1), before + 2);
            due("open", x.open(3, 4, 0), -9);
            due("house(1)", x.house(1), before + 3);
            due("copy", x.copy(3, 0), -9);
            due("house(1)", x.house(1), before + 4);
            due("mark", x.mark(3, -1), -9);
            due("house(1)", x.house(1), before + 5);
            due("ACTS", x.house(0), acts);
            x.cut(36);
            due("cut", x.cut(1), -9);
            due("house(1)", x.house(1), before + 6);
            due("ACTS", x.house(0), acts + 1);
        });
        sentence("4: a -9 that wordValue tells is a number like others", () -> {
            for (String text : new String[] {"-9", "-09", "-000000009", "-1000000009", "-7000000009"}) {
                Twinreaders x = Due.on(text);
                long before = x.digest();
                due("wordValue", x.wordValue(0, 0, 0, 0), -9);
                due("refusals", x.house(1), 0);
                due("digest", x.digest(), before);
            }
        });
        sentence("4: refused again and again", () -> {
            Twinreaders x = new Twinreaders();
            for (int i = 1; i <= 250; i++) {
                due("cut", x.cut(36), -9);
                due("house(1)", x.house(1), i);
            }
        });
    }

    private static void countingTheRest() {
        sentence("house: 2, how many WORDS nextWord and toEnd read (those of KIND 0 are none)", () -> {
            for (int reader = 0; reader < 6; reader++) {
                Twinreaders x = Due.on("a 1 \"b\" //c");
                x.nextWord(reader, 0);
                due("one", x.house(2), 1);
                x.toEnd(reader, 0);
                due("three more", x.house(2), 4);
                x.toEnd(reader, 0);
                x.nextWord(reader, 0);
                due("none at the END", x.house(2), 4);
                x.again(reader);
                x.toEnd(reader, 5);
                due("the same ones once more", x.house(2), 8);
                x.words(reader, 0, 0);
                x.wordText(reader, 0, 1, 0);
                x.sameWords(reader, 0, 0);
                due("what is asked counts none", x.house(2), 8);
            }
            Twinreaders x = Due.on(";".repeat(36));
            x.toEnd(0, 0);
            x.toEnd(3, 8);
            due("36 and 36", x.house(2), 72);
        });
        sentence("house: throws if what is not 0 to 3", () -> {
            for (int what : new int[] {-1, 4, 5, MAX, MIN}) {
                Due.thrown("house(" + what + ")", Due::stirred, x -> x.house(what), ARGUMENT);
                Due.thrown("house(" + what + ") of a new one", Twinreaders::new, x -> x.house(what), ARGUMENT);
            }
            for (int what = 0; what <= 3; what++) {
                due("house(" + what + ") of a new one", new Twinreaders().house(what), 0);
            }
        });
        sentence("knock: how often one knocked, with this; it is no ACT", () -> {
            Twinreaders x = new Twinreaders();
            for (int i = 1; i <= 250; i++) {
                due("knock", x.knock(), i);
                due("house(3)", x.house(3), i);
            }
            due("ACTS", x.house(0), 0);
            due("refusals", x.house(1), 0);
            due("words read", x.house(2), 0);
        });
        sentence("an object is used for at most 512 calls", () -> {
            Twinreaders x = new Twinreaders();
            for (int i = 1; i <= 512; i++) {
                due("knock", x.knock(), i);
            }
            Twinreaders y = new Twinreaders();
            for (int i = 1; i <= 510; i++) {
                due("print", y.print(), i);
            }
            due("openWhole", y.openWhole(0), 0);
            due("printOf", y.printOf(0), 510);
            Twinreaders z = new Twinreaders();
            for (int i = 1; i <= 511; i++) {
                due("read", z.read(i % 6), -1);
            }
            due("ACTS", z.house(0), 511);
        });
    }

    // ---- chapter 4: exceptions

    private static void exceptionsFirst() {
        sentence("4: exceptions go ahead of -9", () -> {
            Due.thrown("sign(256) to 36", EdgesTest::full, x -> x.sign(256), ARGUMENT);
            Due.thrown("sign(-1) to 36", EdgesTest::full, x -> x.sign(-1), ARGUMENT);
            Due.thrown("lay(16) to 36", EdgesTest::full, x -> x.lay(16), ARGUMENT);
            Due.thrown("lay(-1) to 36", EdgesTest::full, x -> x.lay(-1), ARGUMENT);
            Due.thrown("cut(37) of none", Twinreaders::new, x -> x.cut(37), ARGUMENT);
            Due.thrown("cut(MAX) of none", Twinreaders::new, x -> x.cut(MAX), ARGUMENT);
            for (int bad : BAD_READERS) {
                Due.thrown("open(from -1)", Due::stirred, x -> x.open(bad, -1, 0), INDEX);
                Due.thrown("open(many -1)", Due::stirred, x -> x.open(bad, 0, -1), INDEX);
                Due.thrown("open(MAX, MAX)", Due::stirred, x -> x.open(bad, MAX, MAX), INDEX);
                Due.thrown("mark(-1)", Due::stirred, x -> x.mark(bad, -1), INDEX);
                Due.thrown("copy(3, bad)", Due::stirred, x -> x.copy(3, bad), INDEX);
                Due.thrown("copy(bad, 0)", Due::stirred, x -> x.copy(bad, 0), INDEX);
                Due.thrown("copy(bad, bad)", Due::stirred, x -> x.copy(bad, bad), INDEX);
            }
        });
        sentence("4: if several exceptions apply, the one that is named first is thrown", () -> {
            for (int reader : BAD_READERS) {
                Due.thrown("ready of a new one", Twinreaders::new, x -> x.ready(reader), INDEX);
                for (int size : new int[] {-1, 9, MAX, MIN}) {
                    Due.thrown("restText", Due::stirred, x -> x.restText(reader, size), INDEX);
                }
            }
        });
    }

    /** Each call that asks a reader something. */
    private static List<Function<Twinreaders, Object>> asksOf(int reader) {
        List<Function<Twinreaders, Object>> all = new ArrayList<>();
        all.add(x -> x.ready(reader));
        all.add(x -> x.ahead(reader));
        all.add(x -> x.rest(reader));
        all.add(x -> x.restText(reader, 0));
        all.add(x -> x.signAt(reader, 0));
        all.add(x -> x.alike(reader, 0));
        all.add(x -> x.alike(0, reader));
        all.add(x -> x.place(reader));
        all.add(x -> x.marked(reader));
        all.add(x -> x.begin(reader));
        all.add(x -> x.span(reader));
        all.add(x -> x.printOf(reader));
        all.add(x -> x.lastKind(reader));
        all.add(x -> x.lastText(reader));
        all.add(x -> x.lastFrom(reader));
        all.add(x -> x.lastGap(reader));
        all.add(x -> x.words(reader, 0, 0));
        all.add(x -> x.kinds(reader, 1, 1));
        all.add(x -> x.wordFrom(reader, 0, 0, 2));
        all.add(x -> x.wordText(reader, 0, 1, 3));
        all.add(x -> x.wordValue(reader, 0, 0, 4));
        all.add(x -> x.inside(reader, 0, 1, 5));
        all.add(x -> x.isOpen(reader, 0, 6));
        all.add(x -> x.joined(reader, 1, 8));
        all.add(x -> x.sameWords(reader, 0, 0));
        all.add(x -> x.sameWords(0, reader, 8));
        return all;
    }

    /** Each call that has a reader, with this one. */
    private static List<Function<Twinreaders, Object>> callsOf(int reader) {
        List<Function<Twinreaders, Object>> all = goodActs(reader);
        all.subList(0, 4).clear();
        all.add(x -> x.copy(0, reader));
        all.add(x -> x.readTray(reader, 8, 0));
        all.add(x -> x.skip(reader, 0));
        all.addAll(asksOf(reader));
        return all;
    }

    private static void badReaders() {
        sentence("2: there are six READERS, 0 to 5; throws if reader (other, into) is not 0 to 5", () -> {
            for (int reader : BAD_READERS) {
                int which = 0;
                for (Function<Twinreaders, Object> call : callsOf(reader)) {
                    Due.thrown("call " + which + " of " + reader, Due::stirred, call, INDEX);
                    Due.thrown("call " + which + " of " + reader + ", new", Twinreaders::new, call, INDEX);
                    which++;
                }
            }
            for (int reader = 0; reader < 6; reader++) {
                int which = 0;
                for (Function<Twinreaders, Object> call : callsOf(reader)) {
                    Twinreaders x = full();
                    boolean answers = !String.valueOf(Due.of(() -> call.apply(x))).startsWith("throws.");
                    due("call " + which + " of " + reader + " answers", answers, true);
                    which++;
                }
            }
        });
        sentence("4: what is asked changes nothing", () -> {
            for (int reader = 0; reader < 6; reader++) {
                Twinreaders x = Due.stirred();
                long before = x.digest();
                int which = 0;
                for (Function<Twinreaders, Object> call : asksOf(reader)) {
                    Due.of(() -> call.apply(x));
                    due("digest behind call " + which, x.digest(), before);
                    which++;
                }
                x.draft();
                x.draftLength();
                x.tray(7);
                x.trayText();
                x.house(3);
                x.isSound();
                due("digest behind the others", x.digest(), before);
                due("all", Due.whole(x), Due.whole(Due.stirred()));
            }
        });
    }

    private static void badArguments() {
        sentence("4: a method that throws an exception changes nothing, at the END and within", () -> {
            for (int place : new int[] {0, 4, 8}) {
                for (int reader = 0; reader < 6; reader++) {
                    int own = reader;
                    Supplier<Twinreaders> made = () -> at(own, place, 0);
                    Due.thrown("readTray(0, 9)", made, x -> x.readTray(own, 0, 9), INDEX);
                    Due.thrown("readTray(8, 1)", made, x -> x.readTray(own, 8, 1), INDEX);
                    Due.thrown("readTray(9, 0)", made, x -> x.readTray(own, 9, 0), INDEX);
                    Due.thrown("readTray(1, MAX)", made, x -> x.readTray(own, 1, MAX), INDEX);
                    Due.thrown("nextWord(9)", made, x -> x.nextWord(own, 9), ARGUMENT);
                    Due.thrown("toEnd(-1)", made, x -> x.toEnd(own, -1), ARGUMENT);
                    Due.thrown("copy(6)", made, x -> x.copy(own, 6), INDEX);
                    Due.thrown("copy of 6", made, x -> x.copy(6, own), INDEX);
                }
            }
        });
    }

    // ---- promises 47 and 48

    private static void wholes() {
        sentence("isSound: it is always true", () -> {
            due("of a new one", new Twinreaders().isSound(), true);
            due("of a stirred one", Due.stirred().isSound(), true);
            due("of 36", full().isSound(), true);
            for (Supplier<Twinreaders> made : empties()) {
                due("without SIGNS", made.get().isSound(), true);
            }
            for (int reader = 3; reader < 6; reader++) {
                due("PLACE less than MARK", at(reader, 0, 7).isSound(), true);
            }
            for (int reader = 0; reader < 6; reader++) {
                due("at the END", at(reader, 8, 8).isSound(), true);
                due("at the END, MARK 0", at(reader, 8, 0).isSound(), true);
            }
            for (String text : new String[] {"\"", "\"\"\"", "/*", "/*/", "//", "-", "a\"", "a/*", "  ", ";".repeat(36)}) {
                due("of " + text, Due.on(text).isSound(), true);
            }
        });
    }

    /** The sum as the document tells it, in whole numbers without an end, wrapped around at last. */
    private static long digestOf(Twinreaders x) {
        List<Integer> all = new ArrayList<>();
        all.add(x.draftLength());
        x.draft().chars().forEach(all::add);
        for (int reader = 0; reader < 6; reader++) {
            all.addAll(List.of(x.printOf(reader), x.begin(reader), x.span(reader), x.place(reader), x.marked(reader),
                    x.ahead(reader), x.rest(reader), x.lastKind(reader), x.lastFrom(reader), x.lastGap(reader),
                    x.lastText(reader).length()));
            x.joined(reader, 0, 0).chars().forEach(all::add);
            String kinds = x.kinds(reader, 0, 0);
            all.add(kinds.length());
            for (int i = 0; i < kinds.length(); i++) {
                all.add(kinds.charAt(i) - '0');
                all.add(x.wordFrom(reader, i, 0, 0));
            }
            all.add(x.isOpen(reader, 0, 0) ? 1 : 0);
        }
        x.trayText().chars().forEach(all::add);
        for (int what = 0; what <= 3; what++) {
            all.add(x.house(what));
        }
        all.add(x.isSound() ? 1 : 0);
        BigInteger d = BigInteger.valueOf(8003);
        for (int v : all) {
            d = d.multiply(BigInteger.valueOf(31)).add(BigInteger.valueOf(v));
        }
        return d.longValue();
    }

    private static void digests() {
        sentence("digest: wraps around as a 64-bit integer", () -> {
            due("of a new one", new Twinreaders().digest(), -6020761343747299100L);
            due("of a stirred one", Due.stirred().digest(), digestOf(Due.stirred()));
            due("of 36", full().digest(), digestOf(full()));
            for (String text : new String[] {";".repeat(36), ";".repeat(35) + "\"", ";".repeat(34) + "/*"}) {
                Twinreaders x = Due.on(text);
                due("of many WORDS", x.digest(), digestOf(x));
            }
            for (Supplier<Twinreaders> made : empties()) {
                due("without SIGNS", made.get().digest(), digestOf(made.get()));
            }
            String[] texts = {"\"", "a \"", "\"\"", "/*", "/*/", "//\n", "-9 -a", "\u00ff\u0000\u0080", "  ", "a b c d"};
            for (String text : texts) {
                Twinreaders x = Due.on(text);
                due("of " + text, x.digest(), digestOf(Due.on(text)));
                x.toEnd(1, 0);
                x.nextWord(2, 0);
                x.read(4);
                x.readTray(5, 7, 1);
                x.knock();
                long told = x.digest();
                due("of " + text + ", read", told, digestOf(x));
            }
        });
        sentence("digest: asked, it changes nothing", () -> {
            Twinreaders x = Due.stirred();
            long told = x.digest();
            due("again", x.digest(), told);
            due("all", Due.whole(x), Due.whole(Due.stirred()));
        });
        sentence("digest: each v in this order; another v is another DIGEST", () -> {
            for (int reader = 0; reader < 6; reader++) {
                for (Function<Twinreaders, Object> act : goodActs(reader)) {
                    Twinreaders x = Due.stirred();
                    x.openWhole(reader);
                    long before = x.digest();
                    act.apply(x);
                    due("another one behind an ACT", x.digest() != before, true);
                    due("as told", x.digest(), digestOf(x));
                }
            }
        });
    }
}
