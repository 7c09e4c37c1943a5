import com.sun.management.ThreadMXBean;
import java.lang.management.ManagementFactory;

/** LANGUAGE.md 12 and the one room in which all calls of a run live: what an object and its calls make. */
public final class RoomTest {
    private static final int OBJECTS = 60, ROUNDS = 6;
    /** The room of a run: so many objects with their heads, so many fields and elements. */
    private static final long ROOM = 600_000L * 12 + 7_300_000L * 4;

    private final Check check = new Check("room");
    private final ThreadMXBean threads = (ThreadMXBean) ManagementFactory.getThreadMXBean();

    public static void main(String[] args) {
        RoomTest t = new RoomTest();
        t.objects();
        t.calls();
        t.check.end();
    }

    private long bytes() {
        return threads.getThreadAllocatedBytes(Thread.currentThread().getId());
    }

    private void objects() {
        new WhoRules();
        long before = bytes();
        WhoRules x = new WhoRules();
        long made = bytes() - before;
        System.out.println("room: an object makes " + made + " bytes");
        check.due("an object's rows leave the room to its calls: " + made, made < ROOM / 20 ? 1 : 0, 1);
        check.due("it is used", x.count(1), 0);
    }

    private static WhoRules world() {
        WhoRules x = new WhoRules();
        for (int f = 0; f < 5; f++) {
            x.holder(1, 0);
        }
        for (int p = 0; p < 4; p++) {
            x.holder(2, 0);
        }
        for (int h = 9; h < 16; h++) {
            x.holder(4, 0);
        }
        for (int s = 0; s < 40; s++) {
            x.share(s % 5, 5 + s % 4 - 3 * (s % 3), s % 3, 7);
            x.price(s, 1 + s);
        }
        for (Call call : Call.feeds("need 1 3;sleep k=4|(p=0&!v<3);old 3 2")) {
            call.on(x);
        }
        x.charter(0, 0);
        x.tape(0, 1, 14);
        x.tape(1, 1, 14);
        return x;
    }

    /** Each object is asked as often as the document promises. */
    private void calls() {
        WhoRules[] worlds = new WhoRules[OBJECTS];
        for (int k = 0; k < OBJECTS; k++) {
            worlds[k] = world();
        }
        ask(world(), 0);
        long before = bytes();
        long sum = 0;
        for (int k = 0; k < OBJECTS; k++) {
            sum += ask(worlds[k], ROUNDS * k);
        }
        long made = bytes() - before;
        System.out.println("room: calls of " + OBJECTS + " objects made " + made + " bytes");
        check.due("bytes that the calls of an object made: " + made / OBJECTS, made / OBJECTS < ROOM ? 1 : 0, 1);
        check.due("they answered", sum != 0 ? 1 : 0, 1);
    }

    private static long ask(WhoRules x, int from) {
        long sum = 0;
        for (int k = from; k < from + ROUNDS; k++) {
            int f = k % 5;
            int h = k % 16;
            sum += x.buy(5 + k % 4, f, 0) + x.free(f) + x.sold(k % 40) + x.may(5 + k % 4, f, k % 13, k % 2);
            sum += x.all(0, -1, f) + x.pivot(f, h) + x.worth(f, 9, 0) + x.hollow(f) + x.ring(-1) + x.breaks();
            sum += x.votes(f, h, k) + x.carry(f, k, k) + x.ruler(f, k) + x.step(k, -1) + x.proof(0, 0, 7);
            sum += x.force(f, k % 5, k, k % 40) + x.why(f, k % 5, k) + x.held(k % 40, k, 0) + x.of(k % 40, k % 4);
            sum += x.motion(k % 65536, 0) + x.alike(h, f, 0) + x.found(1 + k % 30) + x.act(h, k % 3, k) + x.trace(0);
            sum += x.feed('m' << 24 | 'o' << 16 | 's' << 8 | 't', 4) + x.feed(' ' << 8 | '1', 2) + x.charter(f, 0);
            sum += x.taken(h, 0) + x.count(k % 10) + x.item(0, k % 14, k) + x.read(0, k % 14) + x.shift(0, 0, 1, 1, 9);
            sum += x.tape(2, k % 5, k % 61) + x.price(k % 40, 3) + x.sale(k % 40, h) + x.pass(1);
        }
        return sum;
    }
}
