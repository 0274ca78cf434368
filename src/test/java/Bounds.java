import java.util.ArrayList;
import java.util.List;

/** The last values that are allowed, the first ones that are not, and what a refused call leaves. */
final class Bounds {
    interface Maker {
        LadderMakers make();
    }

    interface Use {
        long on(LadderMakers x);
    }

    interface UseOf {
        long on(LadderMakers x, int value);
    }

    private static final int PROBES = 12;

    private Bounds() {
    }

    /** The call answers what is due. */
    static void takes(String what, Maker maker, long due, Use use) {
        Check.answers(what, due, () -> use.on(maker.make()));
    }

    /** The call throws this exception, and the object is as one that was made without the call. */
    static void refuses(String what, Maker maker, Class<? extends RuntimeException> kind, Use use) {
        LadderMakers x = maker.make();
        Check.fails(what, kind, () -> use.on(x));
        Check.isTrue(what + " changes nothing", wholeOf(x).equals(wholeOf(maker.make())));
    }

    /** The call is taken with the least value and the most, and refused with those beyond them. */
    static void range(String what, Maker maker, int least, int most,
            Class<? extends RuntimeException> kind, UseOf use) {
        for (int value : new int[] {least, most}) {
            Check.isTaken(what + " with " + value, () -> use.on(maker.make(), value));
        }
        for (int value : new int[] {least - 1, most + 1, Integer.MIN_VALUE, Integer.MAX_VALUE}) {
            refuses(what + " with " + value, maker, kind, x -> use.on(x, value));
        }
    }

    /** The call saves one state, which undo() brings back; it leaves the buffer as it is then. */
    static void undoable(String what, Maker maker, Use use) {
        LadderMakers x = maker.make();
        LadderMakers before = maker.make();
        int saved = before.count(9);
        Check.isTaken(what, () -> use.on(x));
        Check.due(what + " saves a state", x.count(9), saved + 1);
        Check.answers(what + " is undone", saved, x::undo);
        x.clearBuffer();
        before.clearBuffer();
        Check.isTrue(what + " is undone wholly", wholeOf(x).equals(wholeOf(before)));
    }

    /** What is told of the object now and behind each undo(); the calls stay below 512. */
    static List<Long> wholeOf(LadderMakers x) {
        List<Long> whole = new ArrayList<>();
        addState(whole, x);
        for (int saved = x.count(9); saved > 0; saved--) {
            whole.add((long) x.undo());
            addState(whole, x);
        }
        whole.add((long) x.firstError(true));
        whole.add((long) x.firstError(false));
        whole.add((long) x.clearBuffer());
        return whole;
    }

    private static void addState(List<Long> whole, LadderMakers x) {
        whole.add(x.digest());
        whole.add(x.chance(0, 8, 0));
        whole.add(x.chance(0, 8, 1));
        int goal = x.count(0);
        int probes = x.count(7) == 1 ? PROBES : 0;
        // These tell how exactly a promise is kept.
        for (int from = 1; from < goal && probes > 0; from++) {
            if (x.square(from, 3) == 1) {
                whole.add(x.ifLinked(from, from % 2 == 0 ? 0 : goal, 2));
                probes--;
            }
        }
    }
}
