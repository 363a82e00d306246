import java.util.Collections;
import java.util.List;

/** Ways of handing packets to an object that many tests share. */
final class Talk {
    private Talk() { }

    static void addAll(LacedSound x, List<Integer> bytes) {
        for (int from = 0; from < bytes.size(); from += 8) {
            int n = Math.min(8, bytes.size() - from);
            x.add(Pages.word(bytes, from, n), n);
        }
    }

    /** Adds n bytes of 7 each. */
    static void fill(LacedSound x, int n) {
        addAll(x, Collections.nCopies(n, 7));
    }

    /** Puts bytes of 0 on the wire until it has a length. */
    static void fillWire(LacedSound x, int length) {
        Pages.put(x, Collections.nCopies(length - x.length(), 0));
    }

    /** Sends a packet in a page of its own and brings it in hand; answers whether it is. */
    static boolean bring(LacedSound x, int stream, int time, boolean last, List<Integer> packet) {
        addAll(x, packet);
        return x.send(stream, time) == 0 && x.flush(stream, last) > 0 && x.next() == 3;
    }

    /** Brings a packet in hand on stream 0 and takes it; answers what take answers. */
    static int tell(LacedSound x, Bits packet) {
        return bring(x, 0, 0, false, packet.bytes()) ? x.take() : -2;
    }
}
