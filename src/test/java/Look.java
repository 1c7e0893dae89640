import java.util.ArrayList;
import java.util.List;
import java.util.function.Supplier;
import java.util.function.ToLongFunction;

/**
 * All that can be seen of a court from outside, always read in the same order, so that two courts can be held against
 * each other. Reading it uses the court up (changes are done again and undone, the image is laid back, the tape read).
 */
final class Look {
    private final SkinOfTeeth x;
    private final List<Long> seen = new ArrayList<>();

    private Look(SkinOfTeeth x) {
        this.x = x;
    }

    static List<Long> at(SkinOfTeeth x) {
        Look look = new Look(x);
        look.countsAndLed();
        look.traceAndShelves();
        look.mouths();
        look.changes();
        look.image();
        look.lawAndTape();
        look.sorts();
        return look.seen;
    }

    /** A call on such a court answers so, and the court is as one on which it was not made. */
    static void changesNothing(Due due, Supplier<SkinOfTeeth> court, String call, long want, ToLongFunction<SkinOfTeeth> made) {
        SkinOfTeeth x = court.get();
        due.is(call, made.applyAsLong(x), want);
        due.is(call + ": changes nothing", at(x).equals(at(court.get())) ? 1 : 0, 1);
    }

    private void countsAndLed() {
        for (int what = 0; what < 6; what++) {
            seen.add((long) x.count(what));
            seen.add((long) x.led(what));
        }
    }

    private void traceAndShelves() {
        for (int i = 0; i < x.count(5); i++) {
            seen.add((long) x.trace(i));
        }
        for (int shelf = 0; shelf < 6; shelf++) {
            seen.add((long) x.taken(shelf, 0));
            long element = x.element(shelf, 0);
            for (int i = 0; i < 60 && element != Long.MIN_VALUE; i++) {
                seen.add(element);
                element = x.element(shelf, i + 1);
            }
        }
    }

    private void mouths() {
        int people = x.count(0);
        for (int one = 0; one < people; one++) {
            for (int what = 0; what <= 8; what++) {
                seen.add((long) x.of(one, what));
            }
            seen.add((long) x.of(one, 12));
        }
        for (int fact = 0; fact < 10; fact++) {
            seen.add((long) x.of(fact, 9));
        }
        seen.add((long) x.of(0, 10));
    }

    private void changes() {
        int more = x.redo();
        for (int i = 0; i < 40 && more >= 0; i++) {
            seen.add((long) more);
            more = x.redo();
        }
        mouths();
        more = x.undo();
        for (int i = 0; i < 40 && more >= 0; i++) {
            seen.add((long) more);
            more = x.undo();
        }
        mouths();
    }

    private void image() {
        seen.add((long) x.back());
        for (int what = 0; what < 6; what++) {
            seen.add((long) x.led(what));
        }
        mouths();
    }

    private void lawAndTape() {
        seen.add((long) x.takes(0, 37));
        seen.add((long) x.takes(0, 90));
        seen.add((long) x.law());
        seen.add((long) x.takes(0, 37));
    }

    /** What an element keeps of this number tells the sort of its row. */
    private void sorts() {
        for (int shelf = 0; shelf < 6; shelf++) {
            x.put(shelf, 0, 0x0102030405060708L);
            seen.add(x.element(shelf, 0));
        }
    }
}
