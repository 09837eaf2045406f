import java.lang.management.ManagementFactory;

/** All calls of one run live in one room: what is made is made in the constructor, and that is small. */
public final class RoomTest {
    private static final int OBJECTS = 200;
    private static final long MOST_BYTES_AN_OBJECT = 80_000;
    private static final String TEXT = "add 0 a.b|c|d;add 1 |x|;add 2 -;split 0 2;join 0;put 0 0 |;cut 0 0;"
            + "align 0 point;align 1 middle;pad 2;least 3;drop 2;drop 9;";
    private static final Due due = new Due();

    public static void main(String[] args) {
        var threads = (com.sun.management.ThreadMXBean) ManagementFactory.getThreadMXBean();
        useAll(new ElasticTabs());
        long before = threads.getCurrentThreadAllocatedBytes();
        ElasticTabs[] made = new ElasticTabs[OBJECTS];
        for (int i = 0; i < OBJECTS; i++) {
            made[i] = new ElasticTabs();
        }
        long between = threads.getCurrentThreadAllocatedBytes();
        for (int i = 0; i < OBJECTS; i++) {
            useAll(made[i]);
        }
        long after = threads.getCurrentThreadAllocatedBytes();
        due.holds("an object is small", (between - before) / OBJECTS < MOST_BYTES_AN_OBJECT);
        due.is("bytes that all calls of an object make", (after - between) / OBJECTS, 0);
        due.end("RoomTest");
    }

    private static void useAll(ElasticTabs x) {
        for (int round = 0; round < 4; round++) {
            for (int i = 0; i < TEXT.length(); i++) {
                x.type(TEXT.charAt(i));
            }
            x.run();
            x.type('x');
            x.run();
            x.clear();
            x.put(0, 0, 'a');
            x.split(0, 1);
            x.join(0);
            x.cut(0, 0);
            x.keep(round % 2);
            x.undo();
            x.back(round % 2);
            x.digest();
            lookAt(x);
        }
    }

    private static void lookAt(ElasticTabs x) {
        for (int what = 0; what < 9; what++) {
            x.count(what);
            x.line(0, what);
            x.cell(0, 0, what);
            x.shown(0, what);
            x.sign(0, what);
            x.align(what);
        }
    }
}
