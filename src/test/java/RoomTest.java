import java.lang.management.ManagementFactory;

/** The room: a new object is small, and none of its calls makes anything that stays or goes. */
public final class RoomTest {
    private static final int OBJECT_BYTES = 8192;
    private static final Check c = new Check();
    private static final com.sun.management.ThreadMXBean BEAN =
            (com.sun.management.ThreadMXBean) ManagementFactory.getThreadMXBean();
    private static final byte[] TEXT =
            ("calm 1 50 0;quarrel 2 60 1;quarrel 2 60 1;saint 3 2;wander 3 70;kin 0 1;most 2 4;"
                    + "quarrel 5 9 0;fine 10;").getBytes(java.nio.charset.StandardCharsets.US_ASCII);
    private static long sum;

    public static void main(String[] args) {
        TenPledges x = new TenPledges();
        callAll(x);
        BEAN.getCurrentThreadAllocatedBytes();
        long before = BEAN.getCurrentThreadAllocatedBytes();
        callAll(x);
        long made = BEAN.getCurrentThreadAllocatedBytes() - before;
        c.due("12 " + made + " bytes made by the calls are few", made < 1024 ? 1 : 0, 1);
        before = BEAN.getCurrentThreadAllocatedBytes();
        TenPledges y = new TenPledges();
        made = BEAN.getCurrentThreadAllocatedBytes() - before;
        c.due("12 " + made + " bytes of a new object are few", made < OBJECT_BYTES ? 1 : 0, 1);
        sum += y.harm();
        c.finish();
    }

    private static void callAll(TenPledges x) {
        for (byte b : TEXT) {
            sum += x.feed(b);
        }
        sum += x.text() + x.fault() + x.end(0);
        for (int m = 0; m < 6; m++) {
            sum += x.man(m, 5) + x.move(m, 3) + x.watch(m, true) + x.kin(m, 0, true) + x.odd(m, 5)
                    + x.goods(m, 30) + x.pays(m, 3) + x.mean(m, 0) + x.best(10 + m) + x.takes(m)
                    + x.weight(m) + x.should(m) + x.worth(m) + x.see(m, 3) + x.swap(m, 0) + x.rule(m)
                    + x.ten(m, 2) + x.calm(m, 1) + x.fits(m) + x.count(m) + x.change(m) + x.guard(m);
        }
        sum += x.leave(0) + x.law(0, 9) + x.year(1) + x.harm() + x.forget(1) + x.drift(1, 60, 0)
                + x.keep(0) + x.back(0) + x.sheet(0, 0, 40) + x.lay(0, 0, 1) + x.read(0, 0, 0, 20)
                + x.torn();
    }
}
