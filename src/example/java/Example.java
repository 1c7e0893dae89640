/** One court, from its first mouths on: each line shows a call and what it answers. */
public final class Example {
    public static void main(String[] args) {
        SkinOfTeeth court = new SkinOfTeeth();
        show("person(9)", court.person(9));               // one with 9 flakes on each of 8 teeth: number 0
        show("person(5)", court.person(5));               // number 1
        show("mend(4, 9, 1)", court.mend(4, 9, 1));       // fact 4 is so; it was not
        show("say(0, 405)", court.say(0, 405));           // 0 says that fact 4 is not so, size 5: flakes off
        show("of(0, 11)", court.of(0, 11));               // what 0 is worth now
        show("person(10)", court.person(10));             // refused: BAD

        // A trial is a row of bytes on a shelf, by fours: who, the fact, what is said, the size.
        bytes(court, 0, 1, 4, 1, 2, 0, 4, 0, 5);
        show("trial(0, -1, 0)", court.trial(0, -1, 0));   // how many sayings
        show("trial(0, 0, 0)", court.trial(0, 0, 0));     // what 0 is worth behind them
        show("believed(0, 4)", court.believed(0, 4));     // 66 against 40: fact 4 is believed not to be so
        show("told(0, 0)", court.told(0, 0));             // how many facts are believed wrongly
        show("bribe(0, 41, 1)", court.bribe(0, 41, 1));   // turn the second saying (bit 1), and it is believed

        // A law comes to the tape byte by byte.
        String text = "c?0;z+l";                          // capped: none; else the size and the lies told
        for (int i = 0; i < text.length(); i++) {
            court.feed(text.charAt(i));
        }
        show("law()", court.law());
        show("takes(0, 45)", court.takes(0, 45));         // a lie about fact 4 of size 5
        show("cap(0, 5)", court.cap(0, 5));               // a cap on tooth 5
        show("takes(0, 45)", court.takes(0, 45));

        // A mirror is a row of 8 bytes: the flakes as they are seen.
        bytes(court, 1, 5, 5, 4, 5, 5, 5, 5, 5);
        show("liesFor(1, 1, 2)", court.liesFor(1, 1, 2)); // no number of lies of size 2 makes 1's mouth so
        show("mend(1, 2, 4)", court.mend(1, 2, 4));
        show("others(1)", court.others(1));               // whose mouth is so now: 1 (bit 1)
        show("undo()", court.undo());                     // one change may still be undone
        show("of(1, 2)", court.of(1, 2));
    }

    private static void bytes(SkinOfTeeth court, int shelf, int... elements) {
        court.row(shelf, 0, elements.length);
        for (int i = 0; i < elements.length; i++) {
            court.put(shelf, i, elements[i]);
        }
    }

    private static void show(String call, long answer) {
        System.out.println(call + " = " + answer);
    }
}
