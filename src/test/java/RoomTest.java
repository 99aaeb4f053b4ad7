import java.lang.management.ManagementFactory;

/** All calls of a run live in one room: what is made is made in the constructor. */
public final class RoomTest {
    private static final String LARGEST =
        "w8,1,4;g40,3;p45,70,80,9,9;h45,40,72,8,9;b30,60,99,5,9;t20,40,30,1,50;l90,90,90,7,90;";
    private static final int MOST_BYTES_OF_CALLS = 16384, MOST_BYTES_OF_ONE = 32768;
    private static final Due DUE = new Due();

    public static void main(String[] args) {
        com.sun.management.ThreadMXBean bean = (com.sun.management.ThreadMXBean) ManagementFactory.getThreadMXBean();
        long me = Thread.currentThread().getId();
        allCalls(Due.with(LARGEST));
        long start = bean.getThreadAllocatedBytes(me);
        WellPipes x = new WellPipes();
        long made = bean.getThreadAllocatedBytes(me);
        Due.tell(x, LARGEST);
        long sum = 0;
        for (int i = 0; i < 10; i++) {
            sum += allCalls(x);
        }
        long end = bean.getThreadAllocatedBytes(me);
        DUE.is("bytes of one object " + (made - start) + ", too many", made - start > MOST_BYTES_OF_ONE ? 1 : 0, 0);
        DUE.is("bytes of all calls " + (end - made) + ", too many", end - made > MOST_BYTES_OF_CALLS ? 1 : 0, 0);
        System.out.println(made - start + " bytes for an object, " + (end - made) + " for its calls (" + sum + ")");
        DUE.end();
    }

    private static long allCalls(WellPipes x) {
        long sum = x.row(0, 0, 40) + x.row(1, 0, 40) + x.set(0, 1, 2) + x.copy(0, 0, 1, 1, 30) + x.drop(1);
        sum += x.layBest() + x.rule(0, 3) + x.price(1, 9) + x.lay(0, 3) + x.lay(0, 4) + x.undo() + x.image(0);
        for (int i = 0; i < 10; i++) {
            sum += x.step(1, i) + x.bears(2, i) + x.stand(i) + x.best(i + 8) + x.without(i) + x.most(i) + x.need(i);
            sum += x.sets(i * 9, 0) + x.share(i, 500) + x.byTurns(i) + x.who(i, i % 2, 0, 0) + x.flaws(i, 0);
            sum += x.drawn(60, 77 + i, 0) + x.grade(i, 3) + x.kind(i) + x.as(i, 1) + x.ask(i, 0) + x.trace(i) + x.count(i);
        }
        return sum + x.restore(0) + x.feed('w') + x.well() + x.fault() + x.status();
    }
}
