import java.util.List;
import java.util.function.Consumer;
import java.util.function.ToIntFunction;

/** What holds for all calls together: refused ones, the greatest and least numbers, 512 calls. */
public final class LimitsTest {
    private static final Check CHECK = new Check("LimitsTest");
    private static final int LEAST = Integer.MIN_VALUE;
    private static final int MOST = Integer.MAX_VALUE;
    private static final List<ToIntFunction<LacedSound>> REFUSED = List.of(
        x -> x.add(-1, 0), x -> x.add(-1, 9), x -> x.add(-1, LEAST), x -> x.add(-1, MOST),
        x -> x.send(-1, 0), x -> x.send(4, 0), x -> x.send(1, 0), x -> x.send(0, -1), x -> x.send(0, 65535),
        x -> x.send(LEAST, LEAST), x -> x.send(MOST, MOST),
        x -> x.flush(-1, true), x -> x.flush(4, true), x -> x.flush(1, true), x -> x.flush(1, false),
        x -> x.flush(LEAST, true), x -> x.flush(MOST, true),
        x -> x.raw(-1, 0), x -> x.raw(-1, 9), x -> x.raw(-1, LEAST), x -> x.raw(-1, MOST),
        x -> x.alter(0, 1) ? 1 : -1, x -> x.alter(-1, 1) ? 1 : -1, x -> x.alter(1000, 1) ? 1 : -1, x -> x.alter(MOST, 1) ? 1 : -1,
        x -> x.alter(x.length() - 1, 0) ? 1 : -1, x -> x.alter(x.length() - 1, 256) ? 1 : -1, x -> x.alter(x.length(), 1) ? 1 : -1,
        x -> x.cut(0, 1) ? 1 : -1, x -> x.cut(-1, 1) ? 1 : -1, x -> x.cut(x.length(), 1) ? 1 : -1, x -> x.cut(x.length() - 1, 0) ? 1 : -1,
        x -> x.cut(x.length() - 1, 2) ? 1 : -1, x -> x.cut(x.length() - 1, MOST) ? 1 : -1, x -> x.cut(MOST, MOST) ? 1 : -1,
        x -> x.wire(-1), x -> x.wire(1000), x -> x.octet(-1), x -> x.octet(1000), x -> x.entry(-1, 0), x -> x.entry(3, 0),
        x -> x.entry(0, -1), x -> x.entry(0, 8), x -> x.curve(-1, 0), x -> x.curve(2, 0), x -> x.curve(0, -1), x -> x.curve(0, 4));

    public static void main(String[] args) {
        refusedCallsChangeNothing();
        extremes();
        lookingChangesNothing();
        calls512();
        CHECK.end();
    }

    /** Sound decoded, a stream that has ended, segments that wait, bytes at hand, events to come. */
    private static void busy(LacedSound x) {
        Packets.live(x);
        x.flush(1, true);
        x.add(0x0201, 2);
        x.send(2, 5);
        Pages.put(x, Pages.counting(Pages.FIRST, 9, 3, 700, 15));
        Pages.put(x, Pages.counting(Pages.CONTINUED, 9, 4, 701, 2, 0, 3));
        x.raw(0x614C, 2);
        CHECK.due("END of stream 1", x.next(), 4);
        CHECK.due("a packet over two pages", x.next(), 3);
        x.add(0x050403, 3);
    }

    private static void refusedCallsChangeNothing() {
        CHECK.sentence("A call that is refused changes nothing.");
        for (int k = 0; k < REFUSED.size(); k++) {
            Twins.refused(CHECK, "refused call " + k, LimitsTest::busy, REFUSED.get(k), -1);
        }
        Twins.refused(CHECK, "all refused calls in a row", LimitsTest::busy, x -> {
            int sum = 0;
            for (ToIntFunction<LacedSound> call : REFUSED) {
                sum += call.applyAsInt(x);
            }
            return sum;
        }, -REFUSED.size());
    }

    private static void extremes() {
        CHECK.sentence("Every method that can refuse does so if any of its reasons holds.");
        int[] numbers = {LEAST, LEAST + 1, -1000, -1, 0, 1, 3, 4, 8, 15, 31, 32, 64, 999, 1000, 65535, MOST - 1, MOST};
        for (int a : numbers) {
            LacedSound x = new LacedSound();
            busy(x);
            for (int b : numbers) {
                boolean alter = x.alter(a, b);
                boolean cut = x.cut(a, b);
                CHECK.due("alter(" + a + ", " + b + ") and cut", alter || cut, false);
                CHECK.due("entry(" + a + ", " + b + ")", x.entry(a, b) != -1, a >= 0 && a < 3 && b >= 0 && b < (a == 0 ? 8 : a == 1 ? 2 : 3));
                CHECK.due("curve(" + a + ", " + b + ")", x.curve(a, b) != -1, a >= 0 && a < 2 && b >= 0 && b < 4);
                CHECK.due("value(" + a + ", " + b + ")", x.value(a, b) != 0, a >= 0 && a < 2 && b > 0 && b < 3);
                CHECK.due("raw of " + b, x.raw(Long.MIN_VALUE, b) != -1, b >= 1 && b <= 8);
            }
        }
    }

    private static void lookingChangesNothing() {
        CHECK.sentence("Nothing is promised beyond the answers and state changes described above");
        Consumer<LacedSound> past = LimitsTest::busy;
        Twins.refused(CHECK, "looking at all there is", past, x -> {
            for (int k = 0; k < 6; k++) {
                x.wire(k);
                x.octet(k);
                x.entry(k, k);
                x.curve(k, k);
                x.value(k, k);
            }
            return x.length() + x.amount() + x.serial() + x.time() + x.pieces() + x.block() + x.samples();
        }, answerOfLooking());
    }

    private static int answerOfLooking() {
        LacedSound x = new LacedSound();
        busy(x);
        return x.length() + x.amount() + x.serial() + x.time() + x.pieces() + x.block() + x.samples();
    }

    private static void calls512() {
        CHECK.sentence("An object is used for at most 512 calls after it has been made");
        LacedSound x = new LacedSound();
        x.raw(5, 1);
        for (int k = 2; k < 512; k++) {
            CHECK.due("call " + k, x.alter(0, 255), true);
        }
        CHECK.due("call 512", x.wire(0), 5);
        // Packets, each in a page of its own, until the wire is full.
        LacedSound y = new LacedSound();
        for (int k = 0; k < 67; k++) {
            CHECK.due("send " + k, y.send(0, 1), 0);
            CHECK.due("flush " + k, y.flush(0, false), k < 66 ? 1 : -1);
            CHECK.due("next() " + k, y.next(), k < 66 ? 3 : 0);
            CHECK.due("take() " + k, y.take(), k < 66 ? 0 : -1);
        }
        // 512 sends: 50 pages of 20 bytes fill the wire, and then a sixth segment is refused.
        LacedSound z = new LacedSound();
        int[] waiting = new int[4];
        int pages = 0;
        for (int k = 0; k < 512; k++) {
            int stream = k % 4;
            int due = waiting[stream] < 5 ? 0 : pages < 50 ? 1 : -1;
            CHECK.due("send " + k, z.send(stream, 65534), due);
            pages += Math.max(due, 0);
            waiting[stream] = due == 1 ? 0 : Math.min(waiting[stream] + 1, 5);
        }
        CHECK.due("pages", pages, 50);
    }
}
