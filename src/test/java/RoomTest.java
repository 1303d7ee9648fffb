import com.sun.management.ThreadMXBean;
import java.lang.management.ManagementFactory;

/** All calls of a run live in one room: calls make no objects, so only new checkers take room. */
public final class RoomTest {
    private static final Due due = new Due();

    public static void main(String[] args) {
        ThreadMXBean thread = (ThreadMXBean) ManagementFactory.getThreadMXBean();
        calls(new DieLineChecker());
        DieLineChecker x = new DieLineChecker();
        long before = thread.getCurrentThreadAllocatedBytes();
        calls(x);
        long made = thread.getCurrentThreadAllocatedBytes() - before;
        due.is("bytes made by calls: " + made, made < 2000 ? 1 : 0, 1);
        before = thread.getCurrentThreadAllocatedBytes();
        DieLineChecker kept = new DieLineChecker();
        made = thread.getCurrentThreadAllocatedBytes() - before;
        due.is("bytes made by a new object: " + made, made < 60000 && kept.count(0) == 0 ? 1 : 0, 1);
        due.end();
    }

    private static void calls(DieLineChecker x) {
        String text = "b90 80 20 20;p0 1 0 20 15 1;p1 1 0 20 20 1;p2 1 0 20 15 1;p3 1 0 20 8 1;f4 0;"
            + "p0 2 0 20 15 1;p0 0 0 20 15 1;i0 200 200;a0 0 0 -50-50;";
        for (int i = 0; i < text.length(); i++) {
            x.type(text.charAt(i));
        }
        x.load();
        for (int round = 0; round < 12; round++) {
            x.addPanel(1, 2, 0, 5, 5, 1);
            x.spreadImage(0);
            x.continueImage(round, true);
            x.setSize(1, 2, 14);
            x.undo();
            x.save(round & 1);
            x.restore(round & 1);
            x.bestDepth(2);
            x.bestAngle(2);
            x.foldStep(2);
            x.crossings(62);
            x.leastTolerance();
            x.volume();
            x.coverage(4);
            x.finding(3, 2);
            x.panelCost(1);
            x.pitch(0, 3, (round & 1) == 0);
            x.rowCount(1, 3);
            x.cutLength();
            x.seam(round, 7);
            x.openLength(1, 1);
            x.setWeight(round & 7, 2);
            x.setLimit(0, round);
        }
    }
}
