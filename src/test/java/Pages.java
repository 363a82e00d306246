import java.util.ArrayList;
import java.util.List;

/** Pages built byte by byte, apart from the program's own writer. */
final class Pages {
    static final int CONTINUED = 1;
    static final int FIRST = 2;
    static final int LAST = 4;

    private Pages() { }

    static List<Integer> of(int flags, int serial, int number, int time, List<Integer> lacings, List<Integer> bytes) {
        List<Integer> page = new ArrayList<>(List.of(76, 97, 76, 83, flags, serial, number, time % 256, time / 256, 0, 0, 0, 0));
        page.add(lacings.size());
        page.addAll(lacings);
        page.addAll(bytes);
        seal(page);
        return page;
    }

    /** A page whose byte k of all its segments' bytes is k + 1. */
    static List<Integer> counting(int flags, int serial, int number, int time, Integer... lacings) {
        List<Integer> bytes = new ArrayList<>();
        for (int lacing : lacings) {
            for (int k = 0; k < lacing; k++) {
                bytes.add(bytes.size() + 1);
            }
        }
        return of(flags, serial, number, time, List.of(lacings), bytes);
    }

    static void seal(List<Integer> page) {
        for (int k = 9; k < 13; k++) {
            page.set(k, 0);
        }
        long check = remainder(page);
        for (int k = 0; k < 4; k++) {
            page.set(9 + k, (int) (check >> (8 * k)) & 255);
        }
    }

    /** The check as the remainder of a division of bit strings. */
    static long remainder(List<Integer> bytes) {
        long register = 0;
        for (int b : bytes) {
            register ^= (long) b << 24;
            for (int k = 0; k < 8; k++) {
                register <<= 1;
                if (register >= 1L << 32) {
                    register ^= 0x104C11DB7L;
                }
            }
        }
        return register;
    }

    /** Puts bytes on the wire with raw, eight at a time; answers the last answer. */
    static int put(LacedSound x, List<Integer> bytes) {
        int answer = x.length();
        for (int from = 0; from < bytes.size(); from += 8) {
            int n = Math.min(8, bytes.size() - from);
            answer = x.raw(word(bytes, from, n), n);
        }
        return answer;
    }

    static long word(List<Integer> bytes, int from, int n) {
        long word = 0;
        for (int k = 0; k < n; k++) {
            word |= (long) bytes.get(from + k) << (8 * k);
        }
        return word;
    }
}
