import java.lang.management.ManagementFactory;
import java.util.List;

/** All calls of one run live in one room, so none of them may leave objects behind. */
final class RoomTest {
    private static final int CALLS = 400;
    private static final long BYTES = 100_000;

    private RoomTest() {
    }

    static List<Outcome> all() {
        Outcome outcome = new Outcome("a full chip makes next to no objects in its calls");
        Powerwell chip = full();
        com.sun.management.ThreadMXBean threads =
                (com.sun.management.ThreadMXBean) ManagementFactory.getThreadMXBean();
        long before = threads.getCurrentThreadAllocatedBytes();
        for (int i = 0; i < CALLS; i++) {
            chip.get(9);
            chip.tick(200);
            chip.put(9);
            chip.tick(30);
        }
        long made = threads.getCurrentThreadAllocatedBytes() - before;
        if (made > BYTES) {
            outcome.fault("the calls made " + made + " bytes of objects");
        }
        return List.of(outcome);
    }

    private static Powerwell full() {
        Powerwell chip = new Powerwell();
        for (int rail = 0; rail < 3; rail++) {
            chip.rail(1 + rail, 's');
            for (int pair = 1; pair <= 5; pair++) {
                chip.pair(rail, 10 * pair, 12 * pair);
            }
            for (int user = 0; user < 6; user++) {
                chip.vote(rail, user, 9);
            }
            chip.budget(rail, 400, 20);
        }
        for (int domain = 0; domain < 8; domain++) {
            chip.domain(domain - 1, domain % 3, domain % 2 == 0);
            chip.trip(domain, 40);
        }
        for (int depth = 0; depth < 4; depth++) {
            chip.depth(depth, depth);
        }
        for (int device = 0; device < 10; device++) {
            chip.device(device % 8, device % 4, 50);
            for (int supplier = 0; supplier < device; supplier++) {
                chip.need(device, supplier);
            }
            chip.work(device, 9999);
        }
        return chip;
    }
}
