import java.lang.management.ManagementFactory;

/**
 * What is made is kept in ONE room, so a call makes no object, and a new object is small: LANGUAGE.md,
 * number 12, and the dearest calls times all calls.
 */
final class RoomTest {
    private static final com.sun.management.ThreadMXBean BEAN =
            (com.sun.management.ThreadMXBean) ManagementFactory.getThreadMXBean();

    public static void main(String[] args) {
        long warm = 0;
        for (int i = 0; i < 3; i++) {
            warm += allCalls(filled());
        }
        WithTheReds[] objects = new WithTheReds[20];
        long before = allocated();
        for (int i = 0; i < objects.length; i++) {
            objects[i] = new WithTheReds();
        }
        long each = (allocated() - before) / objects.length;
        Due.that("an object's room is small: " + each, each < 40_000);

        for (int i = 0; i < objects.length; i++) {
            objects[i] = filled();
        }
        before = allocated();
        for (int i = 0; i < objects.length; i++) {
            warm += allCalls(objects[i]);
        }
        long made = allocated() - before;
        Due.that("calls made " + made + " bytes", made < 16_000);
        System.out.println("an object takes " + each + " bytes; some 2,000 calls made " + made + " (" + warm + ")");
        Due.end();
    }

    private static long allocated() {
        return BEAN.getThreadAllocatedBytes(Thread.currentThread().getId());
    }

    private static WithTheReds filled() {
        WithTheReds w = new WithTheReds();
        for (int i = 0; i < 10; i++) {
            w.thing(i % 4, i % 3 + 1);
            w.mend(i, 1, i);
        }
        w.body(7);
        w.body(5);
        w.keep(2, 0);
        return w;
    }

    private static long allCalls(WithTheReds w) {
        long sum = w.thing(0, 1) + w.row(0, 0, 60) + w.things(0, 0, 10) + w.mend(1, 5, 3) + w.mend(1, 5, 4) + w.of(0,
                12);
        for (int i = 0; i < 30; i++) {
            sum += w.feed("r>n?(r-n)*h;!(r=3)*-(-(5))+s*b".charAt(i));
        }
        sum += w.law() + w.gives(3, 5) + w.run(1023, 51, 1) + w.tint(7, 30, 1) + w.safe(7, 30, 50) + w.together(3, 399);
        sum += w.heat(7, 90) + w.cloths(7, 300) + w.heaps(255, 340, -1) + w.heaps(255, 309, 3) + w.cost(127, 34, 9);
        sum += w.alone(3, 9) + w.late(0, 0) + w.late(0, 1) + w.soon(0, 0) + w.swap(0);
        sum += w.line(1023, 9, 1) + w.rain(1023, 99) + w.order(63, -1) + w.order(63, 3);
        sum += w.row(1, 1, 10) + w.put(1, 0, 9) + w.judge(1, 15, 30) + w.which(1, 15, 30, 1) + w.heatOfIt(1, 15);
        sum += w.sock(1, 15, 3, 3) + w.test(1023, 505) + w.drawn(7, 305, 0) + w.wash(7, 31) + w.bleach(0) + w.led(1);
        sum += w.image() + w.throwAway(9) + w.back() + w.undo() + w.undo() + w.redo() + w.body(0);
        sum += w.act(1, 3, 5) + w.trace(2) + w.keep(3, 1) + w.element(1, 0) + w.shift(1, 0, 1, 1, 5) + w.taken(2, 6);
        return sum + w.count(3);
    }
}
