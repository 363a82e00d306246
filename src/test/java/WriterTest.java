import java.util.ArrayList;
import java.util.List;

/** Promises 2, 3 and 4, seen through wire and length. */
public final class WriterTest {
    private static final Check CHECK = new Check("WriterTest");

    public static void main(String[] args) {
        List<Integer> nine = new ArrayList<>();
        "123456789".chars().forEach(nine::add);
        CHECK.due("the check of 123456789", Pages.remainder(nine), 0x89A1897FL);
        adds();
        pages();
        sends();
        continues();
        manyPages();
        fullWire();
        fullWireOfSend();
        refusals();
        CHECK.end();
    }

    private static void wireIs(LacedSound x, int from, List<Integer> page) {
        for (int k = 0; k < page.size(); k++) {
            CHECK.due("wire(" + (from + k) + ")", x.wire(from + k), page.get(k));
        }
    }

    private static void adds() {
        LacedSound x = new LacedSound();
        CHECK.due("add with n 0", x.add(1, 0), -1);
        CHECK.due("add with n 9", x.add(1, 9), -1);
        CHECK.due("add with n -1", x.add(1, -1), -1);
        CHECK.due("add with the least n", x.add(1, Integer.MIN_VALUE), -1);
        CHECK.due("add with the greatest n", x.add(1, Integer.MAX_VALUE), -1);
        CHECK.due("add of two", x.add(0x99FF03L, 2), 2);
        CHECK.due("add of eight", x.add(-2L, 8), 10);
        x.send(3, 1);
        x.flush(3, false);
        wireIs(x, 0, Pages.of(2, 3, 0, 1, List.of(10), List.of(3, 255, 254, 255, 255, 255, 255, 255, 255, 255)));
        Talk.fill(x, 57);
        CHECK.due("add beyond 64", x.add(0, 8), -1);
        CHECK.due("add up to 64", x.add(0, 7), 64);
        CHECK.due("add of the 65th", x.add(0, 1), -1);
        CHECK.due("send of 64", x.send(3, 1), 0);
        CHECK.due("add after it", x.add(0, 1), 1);
    }

    private static void pages() {
        LacedSound x = new LacedSound();
        CHECK.due("flush of nothing", x.flush(1, false), 0);
        wireIs(x, 0, Pages.of(2, 1, 0, 65535, List.of(), List.of()));
        CHECK.due("send of no bytes", x.send(1, 65534), 0);
        CHECK.due("length() after a send without a page", x.length(), 14);
        CHECK.due("flush", x.flush(1, false), 1);
        wireIs(x, 14, Pages.of(0, 1, 1, 65534, List.of(0), List.of()));
        Talk.fill(x, 15);
        CHECK.due("send of 15", x.send(1, 0), 0);
        CHECK.due("flush of two segments as LAST", x.flush(1, true), 2);
        List<Integer> sevens = new ArrayList<>(java.util.Collections.nCopies(15, 7));
        wireIs(x, 29, Pages.of(4, 1, 2, 0, List.of(15, 0), sevens));
        CHECK.due("length()", x.length(), 60);
        CHECK.due("flush of an ended stream", x.flush(1, false), -1);
        CHECK.due("flush of another stream as LAST", x.flush(0, true), 0);
        wireIs(x, 60, Pages.of(6, 0, 0, 65535, List.of(), List.of()));
    }

    private static void sends() {
        LacedSound x = new LacedSound();
        for (int k = 0; k < 5; k++) {
            x.add(k, 1);
            CHECK.due("send below six segments", x.send(2, 100 + k), 0);
        }
        x.add(9, 1);
        CHECK.due("send of another stream", x.send(1, 9), 0);
        CHECK.due("length() while they wait", x.length(), 0);
        x.add(5, 1);
        CHECK.due("send of the sixth segment", x.send(2, 105), 1);
        wireIs(x, 0, Pages.of(2, 2, 0, 105, List.of(1, 1, 1, 1, 1, 1), List.of(0, 1, 2, 3, 4, 5)));
        CHECK.due("flush behind it", x.flush(2, false), 0);
        CHECK.due("flush of the other stream", x.flush(1, false), 1);
    }

    /** A packet over two pages: no time where it does not end, CONTINUED where it goes on. */
    private static void continues() {
        LacedSound x = new LacedSound();
        Talk.fill(x, 64);
        CHECK.due("five segments", x.send(0, 11), 0);
        Talk.fill(x, 60);
        CHECK.due("five more", x.send(0, 12), 1);
        CHECK.due("CONTINUED of the first", x.wire(4), 2);
        CHECK.due("TIME of the first", x.wire(7), 11);
        CHECK.due("its length", x.length(), 14 + 6 + 64 + 15);
        CHECK.due("flush of the rest", x.flush(0, false), 4);
        CHECK.due("FLAGS of the second", x.wire(99 + 4), 1);
        CHECK.due("NUMBER of the second", x.wire(99 + 6), 1);
        CHECK.due("TIME of the second", x.wire(99 + 7), 12);
        CHECK.due("its last lacing value", x.wire(99 + 17), 0);
        CHECK.due("flush of none", x.flush(0, false), 0);
        CHECK.due("a page without segments is not CONTINUED", x.wire(99 + 63 + 4), 0);
        for (int k = 0; k < 5; k++) {
            x.send(3, 1 + k);
        }
        Talk.fill(x, 64);
        int start = x.length();
        CHECK.due("a page that ends within a packet", x.send(3, 77), 1);
        CHECK.due("its TIME", x.wire(start + 7), 5);
        CHECK.due("the rest", x.flush(3, false), 4);
        CHECK.due("the rest is CONTINUED", x.wire(start + 35 + 4), 1);
        CHECK.due("the rest has TIME", x.wire(start + 35 + 7), 77);
    }

    /** NUMBER begins again behind 255, FIRST does not. */
    private static void manyPages() {
        LacedSound x = new LacedSound();
        for (int k = 0; k < 250; k++) {
            x.flush(0, false);
            if (k % 60 == 59) {
                x.cut(0, 840);
            }
        }
        x.cut(0, x.length());
        for (int k = 250; k < 257; k++) {
            x.flush(0, false);
        }
        CHECK.due("NUMBER of page 255", x.wire(5 * 14 + 6), 255);
        CHECK.due("NUMBER of page 256", x.wire(6 * 14 + 6), 0);
        CHECK.due("FLAGS of page 256", x.wire(6 * 14 + 4), 0);
    }

    private static void fullWire() {
        LacedSound x = new LacedSound();
        for (int k = 0; k < 123; k++) {
            x.raw(0, 8);
        }
        x.raw(0, 3);
        CHECK.due("length()", x.length(), 987);
        CHECK.due("flush that would need 1001", x.flush(0, true), -1);
        CHECK.due("length() after it", x.length(), 987);
        x.cut(0, 1);
        CHECK.due("flush up to 1000", x.flush(0, false), 0);
        CHECK.due("the refused one was no page", x.wire(986 + 6), 0);
        CHECK.due("length() when full", x.length(), 1000);
        CHECK.due("a send without a page on a full wire", x.send(0, 1), 0);
        CHECK.due("flush on a full wire", x.flush(0, false), -1);
        x.cut(0, 15);
        CHECK.due("what waits still waits", x.flush(0, false), 1);
    }

    private static void fullWireOfSend() {
        LacedSound x = new LacedSound();
        for (int k = 0; k < 5; k++) {
            x.send(0, k);
        }
        for (int k = 0; k < 120; k++) {
            x.raw(0, 8);
        }
        x.add(0x0505, 2);
        x.raw(0, 8);
        x.raw(0, 8);
        x.raw(0, 3);
        CHECK.due("a send whose page would need 1001", x.send(0, 9), -1);
        CHECK.due("length() after it", x.length(), 979);
        CHECK.due("the bytes stay at hand", x.add(0x05, 1), 3);
        x.cut(0, 2);
        CHECK.due("a send whose page ends at 1000", x.send(0, 9), 1);
        CHECK.due("length() after that", x.length(), 1000);
        CHECK.due("its last byte", x.wire(999), 5);
        CHECK.due("no bytes are at hand", x.add(1, 1), 1);
        x.cut(0, 100);
        CHECK.due("nothing waits any more", x.flush(0, false), 0);
    }

    private static void refusals() {
        LacedSound x = new LacedSound();
        x.add(1, 1);
        int[] streams = {-1, 4, Integer.MIN_VALUE, Integer.MAX_VALUE};
        for (int stream : streams) {
            CHECK.due("send to stream " + stream, x.send(stream, 0), -1);
            CHECK.due("flush of stream " + stream, x.flush(stream, true), -1);
        }
        int[] times = {-1, 65535, 65536, Integer.MIN_VALUE, Integer.MAX_VALUE};
        for (int time : times) {
            CHECK.due("send at time " + time, x.send(0, time), -1);
        }
        CHECK.due("the byte stays at hand", x.add(1, 1), 2);
        x.flush(2, true);
        CHECK.due("send to an ended stream", x.send(2, 0), -1);
        CHECK.due("the bytes stay at hand", x.add(1, 1), 3);
        CHECK.due("send to a stream that has not ended", x.send(3, 0), 0);
        CHECK.due("length()", x.length(), 14);
    }
}
