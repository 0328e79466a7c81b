import com.sun.management.ThreadMXBean;
import java.lang.management.ManagementFactory;

/** All calls of a run live in one room: the dearest calls of an object make no objects. */
public final class RoomTest {
    private static final Check check = new Check("RoomTest");
    private static final ThreadMXBean ROOM = (ThreadMXBean) ManagementFactory.getThreadMXBean();

    public static void main(String[] args) {
        RoundRows first = dearest();
        useAll(first);
        long before = ROOM.getCurrentThreadAllocatedBytes();
        RoundRows x = new RoundRows();
        long made = ROOM.getCurrentThreadAllocatedBytes() - before;
        check.holds("an object takes " + made + " bytes", made > 0 && made < 16000);
        x = dearest();
        before = ROOM.getCurrentThreadAllocatedBytes();
        long sum = useAll(x);
        made = ROOM.getCurrentThreadAllocatedBytes() - before;
        check.holds("its calls take " + made + " bytes", made < 4000);
        check.holds("all were used", sum != 0);
        check.end();
    }

    /** Seven numbers in years of which some are together in every length, twenty trials. */
    private static RoundRows dearest() {
        RoundRows x = new RoundRows();
        int[] years = {0, 12, 22, 11, 4, 13, 20};
        for (int i = 0; i < years.length; i++) {
            x.year(0, years[i], i * i - 20);
        }
        for (int year = 0; year < 24; year++) {
            x.year(1, year, year * 37 % 99);
        }
        for (int i = 0; i < 20; i++) {
            x.trial(1, 2 + i % 11);
        }
        for (int man = 0; man < 8; man++) {
            x.reads(man, 1048575);
        }
        x.print(0, true);
        x.bar(0);
        return x;
    }

    private static long useAll(RoundRows x) {
        long sum = 0;
        for (int i = 0; i < 8; i++) {
            sum += x.odds(0, 2, i % 2) + x.tried(0, 2, 12, i % 2) + x.drawn(1, 7, 100, 1 + i);
            sum += x.together(0, 1, i, 0) + x.go(0, 1) + x.waves(12, 3, 0) + x.found(1, 12, 1) + x.luck(1, 4, 1);
            sum += x.share(1, 5, 0) + x.lean(0) + x.club() + x.least(255, 0) + x.best(0) + x.good(3) + x.told(11);
            sum += x.dealt(1, 3) + x.say('d') + x.fault() + x.wipe() + x.truth(i) + x.print(1, false) + x.of(0, 2);
        }
        return sum;
    }
}
