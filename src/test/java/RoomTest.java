import java.lang.management.ManagementFactory;

/** All calls of a run live in one room: just the constructor makes objects, and a new object is small. */
public final class RoomTest {
    private static final com.sun.management.ThreadMXBean THREADS =
        (com.sun.management.ThreadMXBean) ManagementFactory.getThreadMXBean();
    private static final Due due = new Due();

    public static void main(String[] args) {
        NobodyJoins x = Due.clubOf("r0m5p5g5t5f5s5l01l12l23l34");
        allCalls(x);
        long before = THREADS.getCurrentThreadAllocatedBytes();
        allCalls(x);
        long made = THREADS.getCurrentThreadAllocatedBytes() - before;
        due.is("bytes made by calls", made, 0);
        before = THREADS.getCurrentThreadAllocatedBytes();
        x = new NobodyJoins();
        made = THREADS.getCurrentThreadAllocatedBytes() - before;
        due.is("a new object in 8000 bytes", made < 8000 ? 1 : 0, 1);
        due.end("RoomTest");
    }

    private static void allCalls(NobodyJoins x) {
        for (int i = -1; i < 7; i++) {
            x.row(i, 4);
            x.lay(i, 1, 1);
            x.at(i, i);
            x.copy(i, 0, 0, 1, 2);
            x.mean(i);
            x.text(i == 0 ? 1 : i, 5);
            x.put(1, i, 109);
            x.fault(i);
            x.mark(i, i);
            x.child(i, i);
            deeds(x, i);
            asking(x, i);
        }
        x.club(0);
        x.tear(0);
    }

    private static void deeds(NobodyJoins x, int i) {
        x.keep(i);
        x.oust(i);
        x.join(i);
        x.fee();
        x.grudge(i, 0);
        x.lots(3, 7 + i);
        x.undo(0);
        x.rule(i);
        x.on(i);
    }

    private static void asking(NobodyJoins x, int i) {
        x.yes(i);
        x.can();
        x.swing(i);
        x.rules(i);
        x.longest(i);
        x.ways(i);
        x.alone();
        x.stands();
        x.run(i);
        x.splits();
        x.peace();
        x.power(i);
        x.share(i);
        x.secrets();
        x.told(i);
        x.minutes(i);
        x.odds(i);
        x.count(i);
        x.findings(i);
        x.digest();
    }
}
