/** A SETUP packet in which a test sets what it wants otherwise; it needs one book and reads no values. */
final class Setup {
    int g;
    int[] parts = {};
    int[] size = {1, 1};
    int[] split = {0, 0};
    int[] master = {0, 0};
    /** For each class, the book numbers plus 1, 0 for no book. */
    int[][] subbooks = {{0, 0}, {0, 0}};
    int r = 3;
    int[] places = {};
    int mode = 1;
    int begin;
    int end;
    int partSize = 1;
    int kinds = 1;
    int kindsBook;
    int has;
    int[] books = {};
    int joined;

    Bits bits() {
        Bits bits = new Bits().put(5, 8).put(g, 2).put(parts.length, 2);
        int classes = 0;
        for (int part : parts) {
            bits.put(part, 1);
            classes = Math.max(classes, part + 1);
        }
        for (int k = 0; k < classes; k++) {
            bits.put(size[k] - 1, 2).put(split[k], 1);
            if (split[k] == 1) {
                bits.put(master[k], 2);
            }
            bits.put(subbooks[k][0], 3);
            if (split[k] == 1) {
                bits.put(subbooks[k][1], 3);
            }
        }
        bits.put(r, 2);
        for (int place : places) {
            bits.put(place, r + 2);
        }
        Packets.values(bits, mode, begin, end, partSize, kinds, kindsBook).put(has, 2 * kinds);
        for (int book : books) {
            bits.put(book, 2);
        }
        return bits.put(joined, 1);
    }
}
