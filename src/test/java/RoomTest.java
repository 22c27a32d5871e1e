import com.sun.management.ThreadMXBean;
import java.lang.management.ManagementFactory;

/** No call makes an object: what a run needs is what its objects are made with. */
public final class RoomTest {
    private static final Check CHECK = new Check("RoomTest");
    private static final String TEXT = "town a; town b; town c; town d; town e; town f; town g; seam a b 9 60; seam b c 9 60; "
        + "seam c d 9 60; seam d e 9 60; seam e f 9 60; seam f g 9 60; seam g a 9 60; seam a d 9 60; seam b e 9 60; seam c f 9 60; "
        + "woman v 3; woman w 4; woman u 5; cart h a d 5; cart i b g 9; cart j c a 1; cart k g c 3; frost 40; seed 77; thread 9999; "
        + "costs = if sewn < 5 then 1 + new else 2 + sewn / 30; wears = 1 + frosty + carted / 9; puckers = sewn / 20; toll = load / 2 + 1;";

    public static void main(String[] args) {
        ThreadMXBean bean = (ThreadMXBean) ManagementFactory.getThreadMXBean();
        long id = Thread.currentThread().getId();
        allCalls(Check.roads(TEXT));
        SewnRoads x = Check.roads(TEXT);
        bean.getThreadAllocatedBytes(id);
        long before = bean.getThreadAllocatedBytes(id);
        allCalls(x);
        long calls = bean.getThreadAllocatedBytes(id) - before;
        // Reading the meter itself makes a little.
        CHECK.due("room: bytes made by calls are " + calls, calls < 1000, true);
        before = bean.getThreadAllocatedBytes(id);
        SewnRoads y = new SewnRoads();
        long made = bean.getThreadAllocatedBytes(id) - before;
        CHECK.due("room: bytes of one object are " + made, made < 60000 && y.count(0) == 0, true);
        CHECK.end();
    }

    private static void allCalls(SewnRoads x) {
        x.feed(0x746f776e, 0x20613b20, 0x746f776e, 0x20623b20, 0x20202020);
        x.back(20);
        x.place();
        for (int i = 0; i < 11; i++) {
            for (int what = 0; what < 8; what++) {
                x.seam(i, what);
                x.cart(i, what);
            }
            x.toll(i, 9);
            x.sew(i, 3);
            x.unpick(i, 1);
            x.send(i);
            x.takes(i, 99);
            x.then(i, 60);
            x.cartIn(i, 60, 1);
        }
        x.cut(3);
        x.undo();
        x.weeks(2);
        x.hold(1);
        x.restore(1);
        x.far(0, 4);
        x.hops(0, 4);
        x.joined(0);
        x.hangs();
        x.sewing(127, 99, 1);
        x.surest(0, 4);
        x.soon(0, 4);
        x.holds(0, 4);
        x.rows();
        x.march(60);
        x.doubles(0, 4, 9);
        x.year(0, 4, 60, 20);
        x.tell(0, 4, 30);
        x.cuts(1, 0);
        x.ask(0);
        x.forget();
        for (int what = 0; what < 15; what++) {
            x.count(what);
        }
        x.feed(0x746f776e, 0x20613b20, 0x746f776e, 0x20623b20, 0x20202020);
        x.read();
    }
}
