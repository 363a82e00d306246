import java.util.ArrayList;
import java.util.List;

/** A packet built bit by bit: a number's lowest bit goes first. */
final class Bits {
    private final List<Integer> bytes = new ArrayList<>();
    private int count;

    Bits put(int number, int width) {
        for (int k = 0; k < width; k++) {
            if (count % 8 == 0) {
                bytes.add(0);
            }
            int last = bytes.size() - 1;
            bytes.set(last, bytes.get(last) | (number >> k & 1) << (count % 8));
            count++;
        }
        return this;
    }

    /** A codeword: its highest digit goes first. */
    Bits word(String digits) {
        for (char digit : digits.toCharArray()) {
            put(digit - '0', 1);
        }
        return this;
    }

    int count() {
        return count;
    }

    List<Integer> bytes() {
        return new ArrayList<>(bytes);
    }
}
