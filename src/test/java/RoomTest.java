import com.sun.management.ThreadMXBean;
import java.lang.management.ManagementFactory;
import java.util.function.IntConsumer;

/**
 * The room of a run: nothing that is made is ever given back, so an object must be small and the
 * calls, but for add(), must make nothing. Measured in bytes, with some slack for the measuring itself.
 */
public final class RoomTest {
    private static final int SLACK = 20_000;

    public static void main(String[] args) {
        Checks checks = new Checks();
        // The first object of all makes the JVM load classes, which is not the program's own room.
        dearest();
        checks.due("objects of at most 50,000 bytes", bytesOf(10, i -> new MorphIndex()) < 10 * 50_000, true);
        readsMakeNothing(checks);
        documentsAreSmall(checks);
        checks.finish();
    }

    private static long bytesOf(int times, IntConsumer call) {
        ThreadMXBean bean = (ThreadMXBean) ManagementFactory.getThreadMXBean();
        bean.getCurrentThreadAllocatedBytes();
        long before = bean.getCurrentThreadAllocatedBytes();
        for (int i = 0; i < times; i++) {
            call.accept(i);
        }
        return bean.getCurrentThreadAllocatedBytes() - before;
    }

    private static MorphIndex dearest() {
        MorphIndex x = new MorphIndex();
        for (int length = 1; length <= 8; length++) {
            Checks.draft(x, Checks.repeated(65, length));
            for (int i = 0; i < 3; i++) {
                x.word(1 + i, 0, 0, -1);
            }
        }
        x.rule(1, 19, 1, 0);
        Checks.draft(x, Checks.repeated(65, 24));
        return x;
    }

    private static void readsMakeNothing(Checks checks) {
        MorphIndex[] objects = new MorphIndex[20];
        for (int i = 0; i < objects.length; i++) {
            objects[i] = dearest();
            objects[i].chain(2, 0);
            objects[i].chain(3, 1);
            objects[i].add();
            objects[i].flush();
            objects[i].open();
        }
        IntConsumer reads = i -> {
            MorphIndex x = objects[i % objects.length];
            x.mode(i, i);
            x.cost();
            x.paths();
            x.nodes();
            x.tokens();
            x.token(i % 24, 4);
            x.term(i % 24);
            x.match(0);
            x.places(0);
            x.segment(0);
            x.open();
        };
        reads.accept(0);
        checks.due("reading calls make nothing", bytesOf(500, reads) < SLACK, true);
    }

    private static void documentsAreSmall(Checks checks) {
        MorphIndex x = dearest();
        IntConsumer adds = i -> {
            x.add();
            x.flush();
        };
        checks.due("40 documents of at most 1,000 bytes", bytesOf(100, adds) < 40 * 1_000 + SLACK, true);
    }
}
