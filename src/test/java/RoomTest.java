import com.sun.management.ThreadMXBean;
import java.lang.management.ManagementFactory;
import java.util.function.ToLongFunction;

/** One room for all calls of a run: an object's own rows are few, and 512 calls of the dearest kinds make none. */
public final class RoomTest {
    private static final Due DUE = new Due("RoomTest");
    private static final ThreadMXBean THREADS = (ThreadMXBean) ManagementFactory.getThreadMXBean();

    public static void main(String[] args) {
        anObject();
        calls("have", x -> x.have(0, 1, 0));
        calls("left", x -> x.left(6, 0));
        calls("enough", x -> x.enough(999, 1));
        calls("bribe", x -> x.bribe(1, 91, 0));
        calls("liesFor", x -> x.liesFor(2, 6, 0));
        calls("two", x -> x.two(2, 6, 0));
        calls("isSo", x -> x.isSo(2, 8, 0));
        calls("drawn", x -> x.drawn(9, 3060, 1));
        calls("law", x -> x.feed('z') + x.law());
        calls("say", x -> x.say(0, 10));
        calls("image", x -> x.image() + x.back());
        calls("mend", x -> x.mend(0, 8, x.of(0, 8) ^ 1) + x.undo() + x.redo());
        calls("act", x -> x.act(0, 3, 7));
        calls("row", x -> x.row(5, 0, 60) + x.shift(0, 0, 5, 0, 60));
        DUE.end();
    }

    private static long made() {
        return THREADS.getThreadAllocatedBytes(Thread.currentThread().getId());
    }

    private static SkinOfTeeth court() {
        SkinOfTeeth x = new SkinOfTeeth();
        for (int i = 3; i <= 9; i++) {
            x.person(i);
        }
        Due.law(x, "l%2?z*0+1;z<3&!c?l-l+1;1");
        x.row(0, 0, 60);
        x.row(1, 0, 40);
        x.row(2, 0, 8);
        x.body(5);
        return x;
    }

    private static void anObject() {
        new SkinOfTeeth();
        long before = made();
        SkinOfTeeth x = new SkinOfTeeth();
        long after = made();
        DUE.is("an object takes at most 16000 bytes", after - before <= 16000 ? 1 : 0, 1);
        DUE.is("it is new", x.count(0), 0);
    }

    /** Fewer bytes than one object a call would take are the measuring's own. */
    private static void calls(String name, ToLongFunction<SkinOfTeeth> call) {
        call.applyAsLong(court());
        made();
        SkinOfTeeth x = court();
        long before = made();
        for (int i = 0; i < 100; i++) {
            call.applyAsLong(x);
        }
        long after = made();
        DUE.is(name + " makes nothing, but made " + (after - before), after - before < 1600 ? 1 : 0, 1);
    }
}
