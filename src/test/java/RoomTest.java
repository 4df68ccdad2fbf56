import com.sun.management.ThreadMXBean;
import java.lang.management.ManagementFactory;

/** All calls of a run share one room, so an object makes what it needs once, and its calls make nothing. */
public final class RoomTest {
    private static final ThreadMXBean THREADS = (ThreadMXBean) ManagementFactory.getThreadMXBean();
    private static final String[] TEXTS = {"createA2", "createB3", "insertA1,2", "insertA2,2", "insertB1,2,3", "indexB b",
        "select A.a,B.a,c from A,B where A.b=B.b order c desc limit 9", "update A b=-(a+1) where not[a=1 or b null]",
        "delete A where a=1", "select a,b,c,d from nowhere", "", "select c from A,B where A.a=B.a+1"};

    public static void main(String[] args) {
        Bench.at("room");
        long calls = 0;
        long making = 0;
        for (int turn = 0; turn < 50; turn++) {
            long before = bytes();
            QueryTables x = new QueryTables();
            making = bytes() - before;
            before = bytes();
            work(x);
            calls = bytes() - before;
        }
        System.out.println("bytes for an object: " + making + ", for its calls: " + calls);
        Bench.due("an object is small", making < 20000, true);
        Bench.due("calls make nothing", calls < 2000, true);
        Bench.end();
    }

    private static long bytes() {
        return THREADS.getThreadAllocatedBytes(Thread.currentThread().getId());
    }

    private static void work(QueryTables x) {
        for (int t = 0; t < TEXTS.length; t++) {
            for (int i = 0; i < TEXTS[t].length(); i++) {
                x.type(TEXTS[t].charAt(i));
            }
            x.run();
            x.value(0, 0);
            x.cell(0, 0, 0);
            x.count(0, 0, 1);
        }
    }
}
