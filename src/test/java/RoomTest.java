import java.lang.management.ManagementFactory;

/** All calls of a run share one small room: after the constructor no call makes anything, and that one makes little. */
public final class RoomTest {
    private static final int CALLS = 400;

    private static long made() {
        return ((com.sun.management.ThreadMXBean) ManagementFactory.getThreadMXBean()).getCurrentThreadAllocatedBytes();
    }

    private static long sum = 0;

    private static void callAll(FoxGeese x) {
        for (int k = 0; k < CALLS; k++) {
            sum += x.field(5, 5) + x.fox(k % 6, 17) + x.goose(3, 7) + x.goose(1, 11) + x.goose(3, 13) + x.thicket(4);
            sum += x.moves(0, 12) + x.goes(16) + x.passes() + x.undo() + x.of(4, 1) + x.can(4) + x.can(0);
            sum += x.worth(3) + x.best(3) + x.few() + x.luck(4) + x.evenings(k, 60);
            sum += x.note(0, 1, 1, 0, 1) + x.mark(0, 1, 0, 0, 1) + x.is() + x.look() + x.kinds(0) + x.ask(0);
            sum += x.image(k % 2) + x.from(k % 2) + x.status(0) + x.count(6) + x.digest() + x.part(1) + x.forget(0);
            sum += x.clear() + x.type('f') + x.type('i') + x.type('e') + x.type('l') + x.type('d') + x.type('3');
            sum += x.type(' ') + x.type('3') + x.type(';') + x.read();
        }
    }

    public static void main(String[] args) {
        FoxGeese x = new FoxGeese();
        callAll(x);
        made();
        long before = made();
        callAll(x);
        long calls = made() - before;
        before = made();
        FoxGeese y = new FoxGeese();
        long object = made() - before;
        sum += y.clear();
        System.out.println(calls + " bytes made by " + CALLS * 40 + " calls, " + object + " by a constructor");
        Due.holds("no call makes an object", calls < 16 * CALLS);
        Due.holds("the constructor makes little", object < 10000);
        Due.end();
    }
}
