import java.lang.management.ManagementFactory;

/** What a run of 512 calls makes: an object's rows, and nothing in any call. */
public final class RoomTest {
    public static void main(String[] args) {
        String text = "x=a/b;y=c+d;?n0,1;!x;z=a/b;n=n-1;?n1,2;w=c+d;!w;.;";
        com.sun.management.ThreadMXBean room = (com.sun.management.ThreadMXBean) ManagementFactory.getThreadMXBean();
        long sum = 0;
        for (int i = 0; i < 50; i++) {
            sum += calls(Subject.of(text));
        }
        long before = room.getThreadAllocatedBytes(Thread.currentThread().getId());
        long empty = room.getThreadAllocatedBytes(Thread.currentThread().getId()) - before;
        before = room.getThreadAllocatedBytes(Thread.currentThread().getId());
        LateMover x = new LateMover();
        long made = room.getThreadAllocatedBytes(Thread.currentThread().getId()) - before - empty;
        Subject.tell(x, text);
        before = room.getThreadAllocatedBytes(Thread.currentThread().getId());
        sum += calls(x);
        long called = room.getThreadAllocatedBytes(Thread.currentThread().getId()) - before - empty;
        System.out.println("an object: " + made + " bytes, its calls: " + called + " bytes, " + sum);
        Subject.due("an object is small", made < 64 * 1024, true);
        Subject.due("calls make nothing", called < 1024, true);
        Subject.finish("RoomTest");
    }

    private static long calls(LateMover x) {
        long sum = 0;
        for (int i = -2; i < 8; i++) {
            sum += x.letter(13, 3) + x.run(-1, 0) + x.run(1, i) + x.alike(0) + x.computed(i) + x.output(i) + x.behind(i);
            sum += x.node(i, 1) + x.expression(0, i) + x.risky() + x.fact(0, i, 2) + x.placed(0, i, 0, 0) + x.fault();
            sum += x.placement(-1, 0, i) + x.shared(-1, 1) + x.most(0) + x.live(i) + x.dead(-1) + x.again(0, 0);
            sum += x.over(0, i) + x.depth(i) + x.heads() + x.weight(0) + x.others(0, 0) + x.ways(0, 60, i) + x.is(i);
            sum += x.write(i, 1) + x.octet(i) + (x.keep(i) ? 1 : 0) + (x.back(i) ? 1 : 0);
            sum += x.feed(0x783D612B, 0x623B2E3B, i, i, i) + x.end(8) + x.program() + x.others(0, 1);
        }
        return sum;
    }
}
