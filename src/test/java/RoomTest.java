import com.sun.management.ThreadMXBean;
import java.lang.management.ManagementFactory;
import java.lang.reflect.Method;
import java.lang.reflect.Modifier;
import java.util.Arrays;
import java.util.Random;

/** No call throws, whatever it is given, wherever it comes; a run needs little room. */
public final class RoomTest {
    private static final int CALLS = 512;
    /** The room has 7.3 million fields and elements; at 4 bytes or more each, this is less than a tenth of it. */
    private static final long MOST_BYTES = 2_000_000;
    private static final int[] EDGES = {Integer.MIN_VALUE, Integer.MIN_VALUE + 1, -1000003, -400, -21, -3, -2, -1, 0, 1, 2, 3, 4, 5, 6,
        7, 8, 9, 10, 11, 12, 13, 14, 15, 16, 19, 20, 21, 30, 31, 32, 33, 63, 64, 99, 100, 101, 107, 108, 109, 255, 400, 401, 65536,
        1000003, Integer.MAX_VALUE - 1, Integer.MAX_VALUE};

    private static final String BASE = "base 60" + ";r 1 2 3;r 2 1 5;r 4 4 0;r 3 5 3".repeat(3) + ";s 1 1;s 2 5;s 4 2;s 3 3".repeat(2);

    private static Method[] face() {
        return Arrays.stream(BatchShare.class.getDeclaredMethods()).filter(m -> Modifier.isPublic(m.getModifiers()))
            .sorted((a, b) -> a.getName().compareTo(b.getName())).toArray(Method[]::new);
    }

    private static BatchShare full() {
        BatchShare x = new BatchShare();
        Check.base(x, BASE);
        for (int q = 0; q < 8; q++) {
            Check.query(x, "join a=d if a>=" + q / 2 + " and b<=" + (3 + q % 4) + " and c<=" + (9 - q) + " and d<=" + (2 + q % 5)
                + " and e>=" + q / 3);
        }
        return x;
    }

    private static void anyArguments() {
        Method[] face = face();
        Check.due("methods of the face", face.length, 36);
        Random random = new Random(5);
        for (int run = 0; run < 300; run++) {
            BatchShare x = run % 3 == 0 ? new BatchShare() : full();
            for (int call = 0; call < CALLS; call++) {
                Method method = face[random.nextInt(face.length)];
                Object[] args = new Object[method.getParameterCount()];
                for (int i = 0; i < args.length; i++) {
                    args[i] = random.nextInt(3) == 0 ? EDGES[random.nextInt(EDGES.length)] : random.nextInt(10);
                }
                try {
                    int answer = (int) method.invoke(x, args);
                    if (answer < -2 && !method.getName().equals("base") && !method.getName().equals("query")) {
                        Check.due(method.getName() + Arrays.toString(args) + " below -2", answer, -2);
                    }
                } catch (ReflectiveOperationException e) {
                    Check.holds(method.getName() + Arrays.toString(args) + " threw " + e.getCause(), false);
                }
            }
        }
    }

    private interface Call {
        void on(BatchShare x, int i);
    }

    private static void room(String name, Call call) {
        ThreadMXBean threads = (ThreadMXBean) ManagementFactory.getThreadMXBean();
        long id = Thread.currentThread().getId();
        BatchShare warm = full();
        call.on(warm, 0);
        long before = threads.getThreadAllocatedBytes(id);
        BatchShare x = full();
        for (int i = 0; i < CALLS - 60; i++) {
            call.on(x, i);
        }
        long used = threads.getThreadAllocatedBytes(id) - before;
        Check.holds(name + " takes " + used + " bytes of room", used < MOST_BYTES);
    }

    private static void littleRoom() {
        room("images", (x, i) -> {
            if (i < 24) {
                x.run();
            } else {
                x.image(i % 4);
            }
        });
        room("going back", (x, i) -> {
            if (i < 24) {
                x.run();
            } else if (i < 28) {
                x.image(i % 4);
            } else {
                x.back(i % 4);
            }
        });
        room("acts", (x, i) -> x.run());
        room("best", (x, i) -> x.best(0));
        room("greedy", (x, i) -> x.greedy(1));
        room("drift", (x, i) -> x.drift(5, 30, 100, 0));
        room("candidate", (x, i) -> x.candidate(i % 108, 14));
        room("texts", (x, i) -> {
            x.feed(0x62617365, 0x20313b72, 0x20312032, 0x20333b73, 0x20342035);
            x.base();
        });
        room("queries", (x, i) -> {
            x.end(0);
            x.query();
        });
    }

    public static void main(String[] args) {
        anyArguments();
        littleRoom();
        Check.close("RoomTest");
    }
}
