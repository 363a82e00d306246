import java.util.ArrayList;
import java.util.List;

/** The boundaries of promise 17 and of a BOOK packet, sentence by sentence. */
public final class BookEdgesTest {
    private static final Check CHECK = new Check("BookEdgesTest");
    /** For each number of entries lengths whose codewords leave nothing free. */
    private static final int[][] LENGTHS = {
        {1}, {1, 1}, {2, 2, 1}, {2, 2, 2, 2}, {3, 3, 2, 2, 2}, {3, 3, 3, 3, 2, 2}, {3, 3, 3, 3, 3, 3, 2}, {3, 3, 3, 3, 3, 3, 3, 3},
    };
    private static final int[][] ORDERED = {
        {1}, {1, 1}, {1, 2, 2}, {2, 2, 2, 2}, {1, 2, 3, 3}, {1, 3, 3, 3, 3}, {2, 2, 2, 3, 3}, {2, 2, 3, 3, 3, 3}, {1, 2, 4, 4, 4, 4},
        {2, 3, 3, 3, 3, 3, 3}, {1, 3, 3, 4, 4, 4, 4}, {3, 3, 3, 3, 3, 3, 3, 3}, {1, 2, 3, 4, 5, 6, 7, 7}, {1, 2, 3, 4, 6, 6, 6, 6},
    };

    public static void main(String[] args) {
        fourBooks();
        sizes();
        sparse();
        lengthsOfOrdered();
        allUsedThen();
        countsOfOrdered();
        lengthAboveEight();
        kinds();
        rootOfEntries();
        numbersOfKindTwo();
        leastAndGreatestNumbers();
        sumOfComponents();
        codewords();
        sums();
        oneUsedEntry();
        readingEveryEntry();
        bitsThatAreGone();
        outBooks();
        entries();
        CHECK.end();
    }

    private static int take(LacedSound x, Bits packet) {
        return Talk.bring(x, 3, 0, false, packet.bytes()) ? x.take() : -2;
    }

    private static void refused(String what, Bits packet) {
        CHECK.due(what + " on a new object", take(new LacedSound(), packet), 0);
        Twins.refusedPacket(CHECK, what, Packets::live, packet.bytes());
    }

    private static void fourBooks() {
        CHECK.sentence("BOOK: at most four, numbered 0 .. 3 as they come; refused if four are there.");
        LacedSound x = new LacedSound();
        for (int k = 0; k < 4; k++) {
            CHECK.due("entry(" + k + ", 0) ahead of the book", x.entry(k, 0), -1);
            CHECK.due("book " + k, take(x, Packets.lengths(1, LENGTHS[k + 1]).put(0, 2)), 3);
            CHECK.due("its last entry", x.entry(k, k + 1) > 0, true);
            CHECK.due("behind its last entry", x.entry(k, k + 2), -1);
        }
        CHECK.due("a fifth", take(x, Packets.evenBook(1, 3)), 0);
        CHECK.due("entry(4, 0)", x.entry(4, 0), -1);
        Twins.refusedPacket(CHECK, "a fifth book", y -> {
            Packets.live(y);
            take(y, Packets.evenBook(2, 1));
        }, Packets.evenBook(1, 3).bytes());
        // A refused book takes no number.
        LacedSound y = new LacedSound();
        for (int k = 0; k < 4; k++) {
            CHECK.due("a refused one", take(y, Packets.lengths(1, 2, 2).put(0, 2)), 0);
            CHECK.due("book " + k + " behind it", take(y, Packets.lengths(1, LENGTHS[k + 1]).put(0, 2)), 3);
            CHECK.due("its last entry", y.entry(k, k + 1) > 0, true);
        }
    }

    private static void sizes() {
        CHECK.sentence("2 bits, D - 1; 3 bits, E - 1: the book has E entries 0 .. E - 1 of dimension D.");
        for (int d = 1; d <= 4; d++) {
            for (int e = 1; e <= 8; e++) {
                LacedSound x = new LacedSound();
                CHECK.due("D " + d + ", E " + e, take(x, Packets.lengths(d, LENGTHS[e - 1]).put(0, 2)), 3);
                CHECK.due("entry(0, E - 1)", x.entry(0, e - 1) > 0, true);
                CHECK.due("entry(0, E)", x.entry(0, e), -1);
            }
        }
    }

    private static void sparse() {
        CHECK.sentence("if SPARSE, 1 bit whether it is used (without SPARSE all are); if it is used, 3 bits, its length less 1.");
        for (int used = 0; used < 256; used++) {
            int count = Integer.bitCount(used);
            Bits book = Packets.book(1, 8, 0).put(1, 1);
            int at = 0;
            for (int e = 0; e < 8; e++) {
                book.put(used >> e, 1);
                if ((used >> e & 1) == 1) {
                    book.put(LENGTHS[count - 1][at] - 1, 3);
                    at++;
                }
            }
            LacedSound x = new LacedSound();
            CHECK.due("SPARSE with " + count + " used", take(x, book.put(0, 2)), count == 0 ? 0 : 3);
            for (int e = 0; e < 8; e++) {
                int due = count == 0 ? -1 : used >> e & 1;
                CHECK.due("entry(0, " + e + ")", Integer.signum(x.entry(0, e)), due);
            }
        }
        refused("SPARSE with none used", Packets.book(1, 8, 0).put(1, 1).put(0, 8).put(0, 2));
    }

    private static Bits orderedBook(int first, int... lengths) {
        Bits book = Packets.book(1, lengths.length, 1).put(first - 1, 3);
        int done = 0;
        for (int l = first; done < lengths.length; l++) {
            int left = lengths.length - done;
            int digits = left == 1 ? 1 : left < 4 ? 2 : left < 8 ? 3 : 4;
            int count = 0;
            while (done + count < lengths.length && lengths[done + count] == l) {
                count++;
            }
            book.put(count, digits);
            done += count;
        }
        return book;
    }

    private static void lengthsOfOrdered() {
        CHECK.sentence("as many bits as the number of entries that are still without has binary digits: a count");
        for (int[] lengths : ORDERED) {
            for (int first = 1; first <= lengths[0]; first++) {
                LacedSound x = new LacedSound();
                // The bits behind tell whether just as many were read: KIND 0, and not 3.
                CHECK.due("ORDERED with " + lengths.length + " entries", take(x, orderedBook(first, lengths).put(0, 2).put(-1, 40)), 3);
                for (int e = 0; e < lengths.length; e++) {
                    CHECK.due("the length of entry " + e, 31 - Integer.numberOfLeadingZeros(x.entry(0, e)), lengths[e]);
                }
                CHECK.due("with KIND 3 behind", take(new LacedSound(), orderedBook(first, lengths).put(3, 2).put(0, 40)), 0);
            }
        }
    }

    private static void allUsedThen() {
        CHECK.sentence("(All entries are used then.)");
        for (int[] lengths : ORDERED) {
            LacedSound x = new LacedSound();
            // Behind a refused book that left its entries without a use.
            CHECK.due("a refused one", take(x, Packets.book(1, 8, 0).put(1, 1).put(0, 8).put(0, 2)), 0);
            take(x, orderedBook(1, lengths).put(0, 2));
            for (int e = 0; e < lengths.length; e++) {
                CHECK.due("entry " + e + " of " + lengths.length, x.entry(0, e) > 0, true);
            }
        }
    }

    private static void countsOfOrdered() {
        CHECK.sentence("refused if it is above that number; the next so many entries get length l; l grows by 1.");
        CHECK.due("2 of 2", take(new LacedSound(), Packets.book(1, 2, 1).put(0, 3).put(2, 2).put(0, 2)), 3);
        refused("3 of 2", Packets.book(1, 2, 1).put(0, 3).put(3, 2).put(0, 40));
        CHECK.due("4 of 4", take(new LacedSound(), Packets.book(1, 4, 1).put(1, 3).put(4, 3).put(0, 2)), 3);
        for (int count = 5; count < 8; count++) {
            refused(count + " of 4", Packets.book(1, 4, 1).put(1, 3).put(count, 3).put(0, 40));
        }
        CHECK.due("8 of 8", take(new LacedSound(), Packets.book(1, 8, 1).put(2, 3).put(8, 4).put(0, 2)), 3);
        for (int count = 9; count < 16; count++) {
            refused(count + " of 8", Packets.book(1, 8, 1).put(2, 3).put(count, 4).put(0, 40));
        }
        CHECK.due("2 of 3, then 4 of 4", take(new LacedSound(), orderedBook(2, 2, 2, 3, 3, 3, 3).put(0, 2)), 3);
        refused("2 of 6, then 5 of 4", Packets.book(1, 6, 1).put(1, 3).put(2, 3).put(5, 3).put(0, 40));
        refused("1 of 3, then 3 of 2", Packets.book(1, 3, 1).put(0, 3).put(1, 2).put(3, 2).put(0, 40));
    }

    private static void lengthAboveEight() {
        CHECK.sentence("while entries are without length: refused if l is above 8");
        // No book of eight entries has a codeword of 8 bits and nothing free: all of these are refused.
        refused("none of length 8", Packets.book(1, 2, 1).put(7, 3).put(0, 2).put(2, 2).put(0, 40));
        refused("one of length 8, one of 9", Packets.book(1, 2, 1).put(7, 3).put(1, 2).put(1, 1).put(0, 40));
        refused("two of length 8", Packets.book(1, 2, 1).put(7, 3).put(2, 2).put(0, 40));
        refused("nothing of any length", Packets.book(1, 1, 1).put(0, 3).put(0, 60));
        refused("lengths 1 to 8", Packets.book(1, 8, 1).put(0, 3).put(1, 4).put(1, 3).put(1, 3).put(1, 3).put(1, 3).put(1, 2).put(1, 2).put(1, 1).put(0, 40));
        CHECK.due("lengths 1 to 7", take(new LacedSound(), orderedBook(1, 1, 2, 3, 4, 5, 6, 7, 7).put(0, 2)), 3);
        // With all lengths given, an l that has grown above 8 is no reason: there is none here.
        CHECK.due("length 1 of one entry", take(new LacedSound(), orderedBook(1, 1).put(0, 2)), 3);
    }

    private static void kinds() {
        CHECK.sentence("Then 2 bits KIND. 0: the book has no vectors. 3: refused.");
        for (int kind = 0; kind < 3; kind++) {
            CHECK.due("KIND " + kind, take(new LacedSound(), Packets.even(1, 1).put(kind, 2).put(0, 40)), 3);
            LacedSound x = new LacedSound();
            take(x, Packets.even(1, 1).put(kind, 2).put(0, 40));
            take(x, Packets.format(1, 0, 0));
            Bits setup = Packets.values(Packets.bareCurve(0, 0), 1, 0, 4, 1, 1, 0).put(1, 2).put(0, 2).put(0, 1);
            CHECK.due("a setup that needs its vectors", take(x, setup), kind == 0 ? 0 : 5);
        }
        refused("KIND 3", Packets.even(1, 1).put(3, 2).put(0, 60));
    }

    private static String codeword(LacedSound x, int entry) {
        return Integer.toBinaryString(x.entry(0, entry)).substring(1);
    }

    /** Reads one vector after the other of the book, which is accepted, in blocks of 32 places. */
    private static LacedSound allVectors(String what, Bits book, int d, int e) {
        LacedSound x = new LacedSound();
        CHECK.due(what, Talk.tell(x, book), 3);
        Talk.tell(x, Packets.lengths(4, 1).put(0, 2));
        Talk.tell(x, Packets.format(1, 3, 3));
        Bits setup = Packets.values(Packets.bareCurve(0, 0), 1, 0, 63, d, 1, 1).put(1, 2).put(0, 2).put(0, 1);
        CHECK.due(what + ": SETUP", Talk.tell(x, setup), 5);
        Bits sound = Packets.channel(Packets.shortSound(), 1, 1);
        for (int k = 0; k < e; k++) {
            sound.word(k % 4 == 0 ? "0" : "").word(codeword(x, k));
        }
        CHECK.due(what + ": SOUND", Talk.tell(x, sound), 2);
        return x;
    }

    private static void rootOfEntries() {
        CHECK.sentence("R of them for KIND 1, where R is the greatest whole number whose D-th power is at most E");
        int[][] roots = {{1, 2, 3, 4, 5, 6, 7, 8}, {1, 1, 1, 2, 2, 2, 2, 2}, {1, 1, 1, 1, 1, 1, 1, 2}, {1, 1, 1, 1, 1, 1, 1, 1}};
        for (int d = 1; d <= 4; d++) {
            for (int e = 1; e <= 8; e++) {
                int r = roots[d - 1][e - 1];
                int[] numbers = new int[r];
                for (int k = 0; k < r; k++) {
                    numbers[k] = 1 + k;
                }
                String what = "KIND 1 with D " + d + " and E " + e;
                Bits head = Packets.vectors(Packets.lengths(d, LENGTHS[e - 1]), 1, 0, 1, 0, 4);
                outAtEnd(what, head, 4 * r);
                Bits book = Packets.vectors(Packets.lengths(d, LENGTHS[e - 1]), 1, 0, 1, 0, 4, numbers);
                LacedSound x = allVectors(what, book, d, e);
                for (int k = 0; k < e; k++) {
                    int rest = k;
                    for (int i = 0; i < d; i++) {
                        CHECK.due(what + ": component " + i + " of entry " + k, x.value(0, k * d + i), 1 + rest % r);
                        rest /= r;
                    }
                }
            }
        }
    }

    private static void numbersOfKindTwo() {
        CHECK.sentence("E * D for KIND 2.");
        for (int d = 1; d <= 4; d++) {
            for (int e = 1; e <= 8; e++) {
                int[] numbers = new int[d * e];
                for (int k = 0; k < d * e; k++) {
                    numbers[k] = (5 * k + 3) % 16;
                }
                String what = "KIND 2 with D " + d + " and E " + e;
                outAtEnd(what, Packets.vectors(Packets.lengths(d, LENGTHS[e - 1]), 2, 0, 1, 0, 4), 4 * d * e);
                LacedSound x = allVectors(what, Packets.vectors(Packets.lengths(d, LENGTHS[e - 1]), 2, 0, 1, 0, 4, numbers), d, e);
                for (int k = 0; k < d * e; k++) {
                    CHECK.due(what + ": number " + k, x.value(0, k), numbers[k]);
                }
            }
        }
    }

    /** Accepted with all the bits that are needed behind the head, refused with one byte less. */
    private static void outAtEnd(String what, Bits head, int needed) {
        int bytes = (head.count() + needed + 7) / 8;
        Bits packet = head.put(0, 32).put(0, 32).put(0, 32).put(0, 32).put(0, 32);
        LacedSound x = new LacedSound();
        Talk.bring(x, 0, 0, false, packet.bytes().subList(0, bytes));
        CHECK.due(what + " with " + bytes + " bytes", x.take(), 3);
        LacedSound y = new LacedSound();
        Talk.bring(y, 0, 0, false, packet.bytes().subList(0, bytes - 1));
        CHECK.due(what + " with " + (bytes - 1) + " bytes", y.take(), 0);
        CHECK.due(what + ": no book", y.entry(0, 0), -1);
    }

    private static void leastAndGreatestNumbers() {
        CHECK.sentence("4 bits MIN + 8 (so MIN is -8 .. 7), 3 bits STEP, 1 bit SUM, 2 bits w - 1");
        for (int min : new int[] {-8, -1, 0, 7}) {
            for (int step : new int[] {0, 1, 7}) {
                for (int w = 1; w <= 4; w++) {
                    int most = (1 << w) - 1;
                    for (int sum = 0; sum < 2; sum++) {
                        Bits book = Packets.vectors(Packets.even(4, 1), 2, min, step, sum, w, 0, most, 1, most, most, most, most, most);
                        String what = "MIN " + min + ", STEP " + step + ", SUM " + sum + ", w " + w;
                        LacedSound x = allVectors(what, book, 4, 2);
                        int[] numbers = {0, most, 1, most, most, most, most, most};
                        int total = 0;
                        for (int k = 0; k < 8; k++) {
                            total = min + step * numbers[k] + (sum == 1 && k % 4 > 0 ? total : 0);
                            CHECK.due(what + ": component " + k, x.value(0, k), total);
                        }
                    }
                }
            }
        }
    }

    private static void sumOfComponents() {
        CHECK.sentence("Component i (0 .. D - 1) of the VECTOR of entry e is MIN + STEP * number, and, if SUM and i > 0, component i - 1 besides.");
        // MIN is -1 and STEP is 2; numbers 0 1 2 3 make -1 1 3 5.
        int[][] due = {{-1, 1, 3, 5, 5, 3, 1, -1}, {-1, 0, 3, 8, 5, 8, 9, 8}};
        for (int sum = 0; sum < 2; sum++) {
            LacedSound x = allVectors("SUM " + sum, Packets.vectors(Packets.even(4, 1), 2, -1, 2, sum, 2, 0, 1, 2, 3, 3, 2, 1, 0), 4, 2);
            for (int k = 0; k < 8; k++) {
                CHECK.due("SUM " + sum + ": component " + k % 4 + " of entry " + k / 4, x.value(0, k), due[sum][k]);
            }
        }
    }

    /** The least words of these lengths, as the sentence says it; null where none is free. */
    private static List<String> leastWords(int[] lengths) {
        List<String> given = new ArrayList<>();
        for (int length : lengths) {
            String found = null;
            for (int c = 0; c < 1 << length && found == null; c++) {
                String word = Integer.toBinaryString(1 << length | c).substring(1);
                boolean free = given.stream().noneMatch(g -> g.startsWith(word) || word.startsWith(g));
                found = free ? word : null;
            }
            if (found == null) {
                return null;
            }
            given.add(found);
        }
        return given;
    }

    private static void codewords() {
        CHECK.sentence("each get the least codeword (as a binary number of so many bits as its length says) of which no codeword given before is a beginning and that is no beginning of one given before.");
        for (int e = 1; e <= 4; e++) {
            for (int code = 0; code < 1 << 2 * e; code++) {
                int[] lengths = new int[e];
                int sum = 0;
                for (int k = 0; k < e; k++) {
                    lengths[k] = 1 + (code >> 2 * k & 3);
                    sum += 16 >> lengths[k];
                }
                boolean good = sum == 16 || e == 1 && lengths[0] == 1;
                String what = "lengths " + java.util.Arrays.toString(lengths);
                LacedSound x = new LacedSound();
                CHECK.due(what, take(x, Packets.lengths(1, lengths).put(0, 2)), good ? 3 : 0);
                List<String> words = leastWords(lengths);
                for (int k = 0; k < e; k++) {
                    int due = good ? Integer.parseInt("1" + words.get(k), 2) : -1;
                    CHECK.due(what + ": entry(0, " + k + ")", x.entry(0, k), due);
                }
            }
        }
    }

    private static void sums() {
        CHECK.sentence("Refused, unless the sum of 1 / 2^length over the used entries is 1");
        CHECK.due("just 1", take(new LacedSound(), Packets.lengths(1, 7, 7, 6, 5, 4, 3, 2, 1).put(0, 2)), 3);
        refused("less than 1 by 1 / 256", Packets.lengths(1, 8, 7, 6, 5, 4, 3, 2, 1).put(0, 2));
        refused("less than 1 by 1 / 128", Packets.lengths(1, 1, 2, 3, 4, 5, 6, 7).put(0, 2));
        refused("above 1 by 1 / 256", Packets.lengths(1, 1, 1, 8).put(0, 2));
        refused("above 1 by 1 / 128", Packets.lengths(1, 1, 1, 8, 8).put(0, 2));
        refused("above 1 by 1 / 256, at the end", Packets.lengths(1, 2, 2, 2, 2, 8).put(0, 2));
        refused("eight of length 1", Packets.lengths(1, 1, 1, 1, 1, 1, 1, 1, 1).put(0, 2));
        refused("eight of length 8", Packets.lengths(1, 8, 8, 8, 8, 8, 8, 8, 8).put(0, 2));
        refused("two of length 2", Packets.lengths(1, 2, 2).put(0, 2));
        refused("1 / 2 with three used", Packets.lengths(1, 2, 3, 3).put(0, 2));
    }

    private static void oneUsedEntry() {
        CHECK.sentence("or there is just one used entry and its length is 1; in that case, its codeword is 0.");
        for (int e = 1; e <= 8; e++) {
            for (int used = 0; used < e; used++) {
                for (int length = 1; length <= 8; length += length == 2 ? 6 : 1) {
                    Bits book = Packets.book(1, e, 0).put(1, 1).put(0, used).put(1, 1).put(length - 1, 3).put(0, e - used - 1);
                    LacedSound x = new LacedSound();
                    CHECK.due("entry " + used + " of " + e + " alone, length " + length, take(x, book.put(0, 2)), length == 1 ? 3 : 0);
                    for (int k = 0; k < e; k++) {
                        CHECK.due("entry(0, " + k + ")", x.entry(0, k), length > 1 ? -1 : k == used ? 2 : 0);
                    }
                }
            }
        }
        // A refused book leaves nothing behind that would count as another used entry.
        LacedSound x = new LacedSound();
        CHECK.due("a refused book", take(x, Packets.lengths(1, 2, 2).put(0, 2)), 0);
        CHECK.due("one used entry behind it", take(x, Packets.lengths(1, 1).put(0, 2)), 3);
        CHECK.due("entry(0, 0)", x.entry(0, 0), 2);
        refused("one entry of length 2", Packets.lengths(1, 2).put(0, 2));
        refused("one entry of length 8", Packets.lengths(1, 8).put(0, 2));
    }

    private static void readingEveryEntry() {
        CHECK.sentence("READING AN ENTRY takes single bits until they are a codeword (the bit read first is the codeword's highest); with just one used entry it takes one bit, which may be 0 or 1.");
        int[] numbers = {0, 1, 2, 3, 4, 5, 6, 7};
        for (int[] lengths : new int[][] {{1, 2, 3, 4, 5, 6, 7, 7}, {7, 7, 6, 5, 4, 3, 2, 1}, {3, 3, 3, 3, 3, 3, 3, 3}, {4, 1, 4, 3, 4, 4, 4, 4}}) {
            LacedSound x = allVectors("eight lengths", Packets.vectors(Packets.lengths(1, lengths), 2, 0, 1, 0, 3, numbers), 1, 8);
            for (int k = 0; k < 8; k++) {
                CHECK.due("entry " + k, x.value(0, k), k);
            }
        }
        for (int bit = 0; bit < 2; bit++) {
            Bits lone = Packets.book(1, 3, 0).put(1, 1).put(0, 1).put(1, 1).put(0, 3).put(0, 1);
            LacedSound x = allVectors("one used entry", Packets.vectors(lone, 2, 0, 1, 0, 3, 3, 5, 7), 1, 0);
            // 13 bits, the bit of the kinds, two values, and 16 bits are gone.
            Talk.tell(x, Packets.channel(Packets.shortSound(), 1, 1).put(bit, 1).put(bit, 1).put(1 - bit, 1));
            CHECK.due("bit " + bit, x.value(0, 0), 5);
            CHECK.due("bit " + (1 - bit), x.value(0, 1), 5);
            CHECK.due("no bit", x.value(0, 2), 0);
            CHECK.due("block()", x.block(), 8 + 32);
        }
    }

    private static void bitsThatAreGone() {
        CHECK.sentence("If a bit is OUT, there is no entry (the bits before it are gone).");
        // The kinds take one bit, and of the word of eight ones that is wanted two bits are there.
        Bits book = Packets.vectors(Packets.lengths(1, 1, 2, 3, 4, 5, 6, 7, 7), 2, 1, 0, 0, 1);
        LacedSound x = allVectors("a word of seven bits", book.put(0, 16), 1, 0);
        Bits sound = Packets.channel(Packets.shortSound(), 1, 1).put(0, 1).word("11");
        CHECK.due("bits", sound.count(), 16);
        CHECK.due("SOUND", Talk.tell(x, sound), 2);
        CHECK.due("no entry", x.value(0, 0), 0);
        CHECK.due("block()", x.block(), 8 + 32);
        // With the bit that was OUT it is an entry.
        Talk.tell(x, Packets.channel(Packets.shortSound(), 1, 1).put(0, 1).word("110").word("1111111"));
        CHECK.due("an entry", x.value(0, 0), 1);
        CHECK.due("an entry over bytes", x.value(0, 1), 1);
        CHECK.due("no third", x.value(0, 2), 0);
    }

    private static void outBooks() {
        CHECK.sentence("and so is a FORMAT, BOOK or SETUP packet that is OUT anywhere.");
        // 8 + 2 + 3 + 1 bits, and then what each kind of lengths takes.
        outAtEnd("without SPARSE", Packets.book(1, 2, 0).put(0, 1), 6 + 2);
        outAtEnd("with SPARSE", Packets.book(1, 2, 0).put(1, 1).put(1, 1).put(0, 3).put(1, 1), 3 + 2);
        outAtEnd("with ORDERED", Packets.book(1, 8, 1).put(2, 3).put(8, 4), 2);
        outAtEnd("KIND 1 up to w", Packets.even(1, 1).put(1, 2), 10 + 2);
        for (int w = 1; w <= 4; w++) {
            for (int e = 1; e <= 8; e++) {
                Bits head = Packets.vectors(Packets.lengths(1, LENGTHS[e - 1]), 1, 0, 1, 0, w);
                outAtEnd("numbers of " + w + " bits for " + e, head, w * e);
            }
        }
    }

    private static void entries() {
        CHECK.sentence("0 when the entry is not used; NONE when there is no such book or entry.");
        LacedSound x = new LacedSound();
        int[] wrong = {-1, Integer.MIN_VALUE, Integer.MAX_VALUE};
        CHECK.due("entry(0, 0) without a book", x.entry(0, 0), -1);
        take(x, Packets.book(1, 3, 0).put(1, 1).put(1, 1).put(0, 3).put(0, 1).put(1, 1).put(0, 3).put(0, 2));
        int[] due = {2, 0, 3, -1, -1, -1, -1, -1, -1};
        for (int e = 0; e < due.length; e++) {
            CHECK.due("entry(0, " + e + ")", x.entry(0, e), due[e]);
        }
        for (int k : wrong) {
            CHECK.due("entry(0, " + k + ")", x.entry(0, k), -1);
            CHECK.due("entry(" + k + ", 0)", x.entry(k, 0), -1);
            CHECK.due("entry(" + k + ", " + k + ")", x.entry(k, k), -1);
        }
        for (int book = 1; book <= 5; book++) {
            CHECK.due("entry(" + book + ", 0)", x.entry(book, 0), -1);
        }
    }
}
