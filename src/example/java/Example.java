/** Uses Twinreaders as README.md shows it: what a line prints stands behind it. */
public final class Example {
    public static void main(String[] args) {
        Twinreaders x = new Twinreaders();

        // A draft is written in pieces and sign by sign; a print of it never changes.
        x.lay(0);
        x.lay(10);
        x.lay(3);
        x.lay(10);
        x.lay(4);
        x.lay(10);
        x.lay(6);
        System.out.println(x.sign('e'));              // 15
        System.out.println(x.draft());                // ab -5 "a b" //e
        System.out.println(x.print());                // 1

        // The row reader 0 is opened on all of the newest print; row readers never skip back.
        System.out.println(x.openWhole(0));           // 15
        System.out.println(x.read(0));                // 97
        System.out.println(x.mark(0, 0));             // 1
        System.out.println(x.skip(0, 4));             // 4
        System.out.println(x.skip(0, -2));            // 0
        System.out.println(x.place(0));               // 5
        System.out.println(x.reset(0));               // 1

        // The text reader 3 is opened on 8 signs from place 3 on; it skips back, but not from its end.
        System.out.println(x.open(3, 3, 8));          // 8
        System.out.println(x.skip(3, 2));             // 2
        System.out.println(x.skip(3, -1));            // -1
        System.out.println(x.readTray(3, 5, 3));      // 3
        System.out.println(x.trayText());             // .....5 "
        System.out.println(x.restText(3, 4));         // a b"

        // Word by word: a name, a number, and two more up to the end.
        x.openWhole(4);
        System.out.println(x.nextWord(4, 0));         // 1
        System.out.println(x.lastText(4));            // ab
        System.out.println(x.nextWord(4, 0));         // 2
        System.out.println(x.lastFrom(4));            // 3
        System.out.println(x.toEnd(4, 0));            // 2

        // The words of a whole span, asked of reader 0 by either door and any size; it stays where it is.
        System.out.println(x.words(0, 0, 0));         // 4
        System.out.println(x.kinds(0, 1, 3));         // 1234
        System.out.println(x.wordValue(0, 1, 0, 0));  // -5
        System.out.println(x.inside(0, 2, 1, 8));     // a b
        System.out.println(x.wordText(0, 3, 0, 1));   // //e
        System.out.println(x.isOpen(0, 0, 0));        // false

        // What can't be done tells -9 and is counted; what is out of bounds throws.
        System.out.println(x.open(5, 16, 1));         // -9
        System.out.println(x.house(1));               // 1
        try {
            x.read(6);
        } catch (IndexOutOfBoundsException e) {
            System.out.println("no reader 6");        // no reader 6
        }
    }
}
