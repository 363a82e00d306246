import java.util.List;

/** The boundaries of promise 20 and of a SOUND's values, sentence by sentence. */
public final class ValueEdgesTest {
    private static final Check CHECK = new Check("ValueEdgesTest");

    public static void main(String[] args) {
        zeroAtFirst();
        channelsThatAreOn();
        rowsInOrder();
        rowsAndRuns();
        groups();
        lastGroup();
        whatIsLeft();
        booksOfPasses();
        cellsOfAPart();
        mixedCells();
        outInKinds();
        outInEntries();
        outInPassOne();
        justEnough();
        joinedPairs();
        joinedOn();
        joinedBehindOut();
        joinedLongest();
        joinedWithoutValues();
        valuesOutside();
        CHECK.end();
    }

    private static LacedSound with(Bits... packets) {
        LacedSound x = new LacedSound();
        for (Bits packet : packets) {
            CHECK.due("a packet that is good", Talk.tell(x, packet) > 0, true);
        }
        return x;
    }

    /** A book of one entry, which takes one bit, with a vector of one component. */
    private static Bits always(int min, int step, int number) {
        return Packets.vectors(Packets.lengths(1, 1), 1, min, step, 0, 4, number);
    }

    private static Bits flat(Bits sound) {
        return Packets.channel(sound, 1, 1);
    }

    /** Takes a packet of just so many bits, and so many bytes less. */
    private static void tell(LacedSound x, Bits sound, int bytesLess) {
        List<Integer> bytes = sound.bytes();
        CHECK.due("the packet is in hand", Talk.bring(x, 0, 0, false, bytes.subList(0, bytes.size() - bytesLess)), true);
        CHECK.due("SOUND", x.take(), 2);
    }

    private static void valuesAre(String what, LacedSound x, int channel, int... due) {
        for (int k = 0; k < due.length; k++) {
            CHECK.due(what + ": value(" + channel + ", " + k + ")", x.value(channel, k), due[k]);
        }
    }

    /** Kinds of one bit each from book 0, and entries of one bit each, of value 5, from book 1. */
    private static Setup fives(int begin, int end) {
        Setup setup = new Setup();
        setup.begin = begin;
        setup.end = end;
        setup.has = 1;
        setup.books = new int[] {1};
        return setup;
    }

    private static LacedSound fivesWith(int channels, Setup setup) {
        return with(Packets.format(channels, 0, 1), Packets.lengths(1, 1).put(0, 2), always(5, 0, 0), setup.bits());
    }

    private static void zeroAtFirst() {
        CHECK.sentence("VALUES are 0 at first.");
        LacedSound x = fivesWith(2, fives(0, 4));
        Talk.tell(x, flat(flat(Packets.shortSound())).put(0, 16));
        valuesAre("both channels", x, 0, 5, 5, 5, 5);
        valuesAre("both channels", x, 1, 5, 5, 5, 5);
        Talk.tell(x, flat(flat(Packets.shortSound())).put(0, 16));
        valuesAre("the same again", x, 0, 5, 5, 5, 5);
        Talk.tell(x, flat(Packets.shortSound().put(0, 1)).put(0, 8));
        valuesAre("channel 0 not used", x, 0, 0, 0, 0, 0);
        valuesAre("channel 0 not used", x, 1, 5, 5, 5, 5);
        Talk.tell(x, Packets.shortSound().put(0, 2).put(0, 20));
        valuesAre("none used", x, 1, 0, 0, 0, 0);
    }

    private static void channelsThatAreOn() {
        CHECK.sentence("A channel is ON if it is used; if JOINED, both are ON when one is.");
        for (int joined = 0; joined < 2; joined++) {
            for (int used = 0; used < 4; used++) {
                Setup setup = fives(0, 1);
                setup.joined = joined;
                LacedSound x = fivesWith(2, setup);
                Bits sound = Packets.shortSound();
                sound = used % 2 == 1 ? flat(sound) : sound.put(0, 1);
                sound = used / 2 == 1 ? flat(sound) : sound.put(0, 1);
                Talk.tell(x, sound.put(0, 30));
                CHECK.due("block() with " + used, x.block(), 8 * used);
                // What both channels have is 5 and 5; JOINED makes 5 and 0 of it.
                boolean both = joined == 1 && used > 0;
                CHECK.due("value(0, 0) with " + used + ", JOINED " + joined, x.value(0, 0), both || used % 2 == 1 ? 5 : 0);
                CHECK.due("value(1, 0) with " + used + ", JOINED " + joined, x.value(1, 0), joined == 0 && used / 2 == 1 ? 5 : 0);
            }
        }
    }

    private static void rowsInOrder() {
        CHECK.sentence("In pass 0 every row in order has at the beginning of each group an entry read from the kinds' book, v");
        // Two rows of two parts in groups of one: kinds of both rows, values of both, and so again.
        Setup setup = fives(0, 2);
        setup.has = 3;
        setup.books = new int[] {1, 1};
        LacedSound x = with(Packets.format(2, 0, 0), Packets.lengths(1, 1).put(0, 2), counting(1), setup.bits());
        Bits sound = flat(flat(Packets.shortSound()));
        sound.put(0, 2).word("001").word("010").put(0, 2).word("011").word("100");
        // Pass 1 has no kinds to read: part 0 of both rows, part 1 of both rows.
        sound.word("000").word("001").word("010").word("011");
        tell(x, sound, 0);
        CHECK.due("block()", x.block(), 24);
        valuesAre("two rows", x, 0, 2 + 1, 4 + 3, 0, 0);
        valuesAre("two rows", x, 1, 3 + 2, 5 + 4, 0, 0);
    }

    private static void rowsAndRuns() {
        CHECK.sentence("Let lo and hi be BEGIN and END, or the number of cells of a row if that is less. The parts of a row are the (hi - lo) / (part size) (rounded down) runs of cells that follow one another from lo on.");
        for (int mode = 0; mode < 3; mode++) {
            for (int channels = 1; channels <= 2; channels++) {
                int cells = mode == 2 ? 4 * channels : 4;
                for (int begin = 0; begin <= cells + 1; begin++) {
                    for (int end : new int[] {begin, begin + 1, begin + 2, begin + 3, cells - 1, cells, cells + 1, 63}) {
                        for (int partSize = 1; partSize <= 3 && end >= begin; partSize++) {
                            run(mode, channels, begin, end, partSize);
                        }
                    }
                }
            }
        }
    }

    private static void run(int mode, int channels, int begin, int end, int partSize) {
        Setup setup = fives(begin, end);
        setup.mode = mode;
        setup.partSize = partSize;
        LacedSound x = fivesWith(channels, setup);
        int cells = mode == 2 ? 4 * channels : 4;
        int lo = Math.min(begin, cells);
        int hi = Math.min(end, cells);
        int parts = (hi - lo) / partSize;
        int rows = mode == 2 ? 1 : channels;
        Bits sound = flat(Packets.shortSound());
        sound = channels == 2 ? flat(sound) : sound;
        int needed = rows * parts * (1 + partSize);
        sound.put(0, needed);
        String what = "MODE " + mode + ", " + channels + " channels, " + begin + " to " + end + " by " + partSize;
        tell(x, sound, 0);
        CHECK.due(what + ": block()", x.block(), channels == 2 ? 24 : 8);
        for (int c = 0; c < channels; c++) {
            for (int place = 0; place < 4; place++) {
                int cell = mode == 2 ? place * channels + c : place;
                boolean within = cell >= lo && cell < lo + parts * partSize;
                CHECK.due(what + ": value(" + c + ", " + place + ")", x.value(c, place), within ? 5 : 0);
            }
        }
        if (needed > 8) {
            tell(x, sound, 1);
            CHECK.due(what + ": block() with a byte less", x.block(), (channels == 2 ? 24 : 8) + 32);
        }
    }

    /** Book 0 tells kinds in groups; a part has one cell, of 5 if its kind is 1. */
    private static LacedSound grouped(int dimension, int parts) {
        Setup setup = fives(0, parts);
        setup.kinds = 2;
        setup.has = 4;
        return with(Packets.format(1, 2, 2), Packets.evenBook(dimension, 3), always(5, 0, 0), setup.bits());
    }

    /** The kind of the part numbered k in a group that has the entry v. */
    private static int kindOf(int v, int k, int dimension) {
        return v >> (dimension - 1 - k) & 1;
    }

    private static void groups() {
        CHECK.sentence("the kind of the group's last part (in a full group) is v mod (number of kinds), v becomes v / (number of kinds), the part before it gets its kind from that likewise, and so on");
        for (int d = 1; d <= 4; d++) {
            for (int v = 0; v < 8; v++) {
                group(d, v, d);
                group(d, v, 2 * d);
                group(d, v, 3 * d);
            }
        }
    }

    private static void lastGroup() {
        CHECK.sentence("the parts are gone through in groups of as many as the dimension of the kinds' book (the last group may have fewer).");
        for (int d = 1; d <= 4; d++) {
            for (int parts = 0; parts <= 9; parts++) {
                group(d, 5, parts);
            }
        }
        CHECK.sentence("for a last group with fewer parts this is done as for a full one, and the kinds of the parts that are not there count for nothing.");
        for (int d = 2; d <= 4; d++) {
            for (int v = 0; v < 8; v++) {
                for (int fewer = 1; fewer < d; fewer++) {
                    group(d, v, fewer);
                    group(d, v, d + fewer);
                }
            }
        }
    }

    private static void group(int d, int v, int parts) {
        LacedSound x = grouped(d, parts);
        Bits sound = flat(Packets.shortSound());
        int[] due = new int[parts + 1];
        for (int part = 0; part < parts; part++) {
            if (part % d == 0) {
                sound.word(Integer.toBinaryString(8 | v).substring(1));
            }
            if (kindOf(v, part % d, d) == 1) {
                sound.put(1, 1);
                due[part] = 5;
            }
        }
        tell(x, sound, 0);
        String what = "entry " + v + " for " + parts + " parts in groups of " + d;
        CHECK.due(what + ": block()", x.block(), 8);
        valuesAre(what, x, 0, due);
    }

    private static void whatIsLeft() {
        CHECK.sentence("(what is left of v counts for nothing)");
        for (int v = 0; v < 8; v++) {
            LacedSound x = grouped(1, 2);
            String word = Integer.toBinaryString(8 | v).substring(1);
            Bits sound = flat(Packets.shortSound());
            for (int part = 0; part < 2; part++) {
                sound.word(word).put(0, v % 2);
            }
            tell(x, sound, 0);
            CHECK.due("block()", x.block(), 8);
            valuesAre("entry " + v, x, 0, v % 2 * 5, v % 2 * 5, 0);
        }
        // With one kind, all entries tell the same.
        for (int v = 0; v < 8; v++) {
            LacedSound x = with(Packets.format(1, 2, 2), Packets.evenBook(4, 3), always(5, 0, 0), fives(0, 3).bits());
            tell(x, flat(Packets.shortSound()).word(Integer.toBinaryString(8 | v).substring(1)).put(0, 3), 0);
            valuesAre("one kind, entry " + v, x, 0, 5, 5, 5, 0);
        }
    }

    private static void booksOfPasses() {
        CHECK.sentence("if the part's kind has a book in this pass, then as many entries as part size / dimension are read");
        for (int k = 0; k < 48; k++) {
            passes(k % 16, k / 16);
        }
    }

    /** Two parts, of kind 0 and 1, with books 1, 2 for the one, 3, 1 for the other. */
    private static void passes(int has, int mode) {
        Setup setup = new Setup();
        setup.mode = mode;
        setup.end = 2;
        setup.kinds = 2;
        setup.has = has;
        int[] books = {1, 2, 3, 1};
        setup.books = new int[Integer.bitCount(has)];
        int at = 0;
        for (int k = 0; k < 4; k++) {
            if ((has >> k & 1) == 1) {
                setup.books[at] = books[k];
                at++;
            }
        }
        LacedSound x = with(Packets.format(1, 0, 0), Packets.evenBook(1, 1), always(1, 0, 0), always(3, 7, 1), always(2, 7, 14), setup.bits());
        Bits sound = flat(Packets.shortSound()).word("0").put(0, has & 1).word("1").put(0, has >> 2 & 1).put(0, has >> 1 & 1).put(0, has >> 3 & 1);
        tell(x, sound, 0);
        String what = "books " + has;
        CHECK.due(what + ": block()", x.block(), 8);
        int first = (has & 1) + 10 * (has >> 1 & 1);
        int second = 100 * (has >> 2 & 1) + (has >> 3 & 1);
        valuesAre(what, x, 0, first, second, 0, 0);
    }

    /** A book of eight entries of three bits, with the components 0, 1, 2, .. one after the other. */
    private static Bits counting(int dimension) {
        int[] numbers = new int[8 * dimension];
        for (int k = 0; k < numbers.length; k++) {
            numbers[k] = k % 16;
        }
        return Packets.vectors(Packets.even(dimension, 3), 2, 1, 1, 0, 4, numbers);
    }

    private static void cellsOfAPart() {
        CHECK.sentence("component i of the vector of the j-th one (from 0) is added to the cell of the part numbered j + i * (part size / dimension) for MODE 0, j * dimension + i for MODE 1 and 2.");
        for (int mode = 0; mode < 3; mode++) {
            for (int d = 1; d <= 4; d++) {
                for (int size = d; size <= 8; size += d) {
                    Setup setup = fives(3, 3 + size);
                    setup.mode = mode;
                    setup.partSize = size;
                    LacedSound x = with(Packets.format(1, 2, 2), Packets.lengths(1, 1).put(0, 2), counting(d), setup.bits());
                    Bits sound = flat(Packets.shortSound()).put(0, 1);
                    int[] due = new int[16];
                    for (int j = 0; j < size / d; j++) {
                        sound.word(Integer.toBinaryString(8 | 7 - j).substring(1));
                        for (int i = 0; i < d; i++) {
                            due[3 + (mode == 0 ? j + i * (size / d) : j * d + i)] = 1 + ((7 - j) * d + i) % 16;
                        }
                    }
                    tell(x, sound, 0);
                    valuesAre("MODE " + mode + ", part of " + size + ", dimension " + d, x, 0, due);
                    CHECK.due("block()", x.block(), 8);
                }
            }
        }
    }

    private static void mixedCells() {
        CHECK.sentence("for MODE 2 there is one row of channels * n / 2 cells, if any channel is ON, whose cell c belongs to place c / channels of channel c mod channels.");
        for (int used = 1; used < 4; used++) {
            Setup setup = fives(1, 8);
            setup.mode = 2;
            setup.partSize = 7;
            LacedSound x = with(Packets.format(2, 0, 0), Packets.lengths(1, 1).put(0, 2), counting(1), setup.bits());
            Bits sound = Packets.shortSound();
            sound = used % 2 == 1 ? flat(sound) : sound.put(0, 1);
            sound = used / 2 == 1 ? flat(sound) : sound.put(0, 1);
            sound.put(0, 1);
            for (int k = 0; k < 7; k++) {
                sound.word(Integer.toBinaryString(8 | k).substring(1));
            }
            tell(x, sound, 0);
            CHECK.due("block()", x.block(), 8 * used);
            valuesAre("used " + used, x, 0, 0, 2, 4, 6);
            valuesAre("used " + used, x, 1, 1, 3, 5, 7);
            tell(x, Packets.shortSound().put(0, 2).put(-1, 20), 0);
            valuesAre("none ON", x, 1, 0, 0, 0, 0);
            CHECK.due("no read with none ON", x.block(), 0);
        }
    }

    private static void outInKinds() {
        CHECK.sentence("A read that is OUT ends all of this; what was added before stays.");
        // Two parts in groups of one: 2 + 11 bits, a kind, a value, a kind, and the second value is OUT.
        LacedSound x = with(Packets.format(1, 0, 0), Packets.evenBook(1, 1), always(5, 0, 0), fives(0, 2).bits());
        Bits sound = flat(Packets.shortSound()).put(0, 1).put(0, 1).put(0, 1);
        CHECK.due("bits", sound.count(), 16);
        tell(x, sound, 0);
        CHECK.due("block()", x.block(), 8 + 32);
        valuesAre("OUT in the second value", x, 0, 5, 0, 0, 0);
        // Kinds of two bits: of the second one a bit is there.
        LacedSound y = with(Packets.format(1, 0, 0), Packets.evenBook(1, 2), always(5, 0, 0), fives(0, 2).bits());
        tell(y, flat(Packets.shortSound()).put(0, 2).put(0, 1), 0);
        CHECK.due("block()", y.block(), 8 + 32);
        valuesAre("OUT in the second kind", y, 0, 5, 0, 0, 0);
        // Two rows: the kind of the second row is OUT, so that nothing is added to the first.
        LacedSound z = with(Packets.format(2, 0, 1), Packets.evenBook(1, 3), always(5, 0, 0), fives(0, 2).bits());
        Bits both = flat(flat(Packets.longSound(0))).put(0, 3).put(0, 3);
        CHECK.due("bits", both.count(), 32);
        tell(z, both, 0);
        CHECK.due("block() with both kinds there", z.block(), 1 + 24 + 32);
        tell(z, both, 1);
        CHECK.due("block() with no kind there", z.block(), 1 + 8 + 32);
        valuesAre("OUT in the kinds", z, 0, 0, 0);
    }

    private static void outInEntries() {
        CHECK.sentence("A read that is OUT ends all of this; what was added before stays.");
        // One part of four entries of three bits: 13 + 1 + 3 * 3 + 1 bits.
        Setup setup = fives(0, 4);
        setup.partSize = 4;
        LacedSound x = with(Packets.format(1, 0, 0), Packets.lengths(1, 1).put(0, 2), counting(1), setup.bits());
        Bits sound = flat(Packets.shortSound()).put(0, 1).word("110").word("101").word("100").word("1");
        CHECK.due("bits", sound.count(), 24);
        tell(x, sound, 0);
        CHECK.due("block()", x.block(), 8 + 32);
        valuesAre("the fourth is OUT", x, 0, 7, 6, 5, 0);
        tell(x, sound.word("11"), 0);
        CHECK.due("block() with all there", x.block(), 8);
        valuesAre("all are there", x, 0, 7, 6, 5, 8);
        // Of a vector whose entry is OUT, no component is added.
        Setup pairs = fives(0, 4);
        pairs.partSize = 4;
        LacedSound y = with(Packets.format(1, 0, 0), Packets.evenBook(1, 2), counting(2), pairs.bits());
        Bits halves = flat(Packets.shortSound()).put(0, 2).word("110").word("111");
        tell(y, halves, 1);
        valuesAre("the first is OUT", y, 0, 0, 0, 0, 0);
        tell(y, halves, 0);
        valuesAre("both are there", y, 0, 13, 14, 15, 16);
    }

    private static void outInPassOne() {
        CHECK.sentence("A read that is OUT ends all of this; what was added before stays.");
        Setup setup = fives(0, 2);
        setup.has = 3;
        setup.books = new int[] {1, 2};
        LacedSound x = with(Packets.format(1, 0, 0), Packets.lengths(2, 1).put(0, 2), always(5, 0, 0), counting(1), setup.bits());
        // 13 bits, a kind, two values; then three bits for each value of pass 1.
        Bits sound = flat(Packets.shortSound()).put(0, 3).word("111").word("110");
        tell(x, sound, 1);
        CHECK.due("block() with pass 1 OUT", x.block(), 8 + 32);
        valuesAre("pass 1 is OUT", x, 0, 5, 5, 0, 0);
        tell(x, sound, 0);
        CHECK.due("block() with all there", x.block(), 8);
        valuesAre("all are there", x, 0, 13, 12, 0, 0);
    }

    private static void justEnough() {
        CHECK.sentence("32 if its packet was OUT somewhere.");
        // 13 bits, and two bits for one part after the other.
        for (int bytes = 2; bytes <= 4; bytes++) {
            for (int parts = 0; parts <= 12; parts++) {
                LacedSound x = with(Packets.format(1, 3, 3), Packets.lengths(1, 1).put(0, 2), always(5, 0, 0), fives(0, parts).bits());
                tell(x, flat(Packets.shortSound()).put(0, 8 * bytes - 13), 0);
                int whole = Math.min(parts, (8 * bytes - 13) / 2);
                String what = parts + " parts in " + bytes + " bytes";
                CHECK.due(what + ": block()", x.block(), whole < parts ? 8 + 32 : 8);
                for (int k = 0; k < 13; k++) {
                    CHECK.due(what + ": value(0, " + k + ")", x.value(0, k), k < whole ? 5 : 0);
                }
            }
        }
    }

    private static void joinedPairs() {
        CHECK.sentence("if m > 0: they become m and m - a if a > 0, m + a and m if not. If m <= 0: m and m + a if a > 0, m - a and m if not.");
        Setup setup = fives(0, 1);
        setup.joined = 1;
        int[] lengths = {3, 3, 2, 2, 2};
        String[] words = {"000", "001", "01", "10", "11"};
        Bits book = Packets.vectors(Packets.lengths(1, lengths), 2, -2, 1, 0, 3, 0, 1, 2, 3, 4);
        for (int m = -2; m <= 2; m++) {
            LacedSound x = with(Packets.format(2, 0, 0), Packets.lengths(1, 1).put(0, 2), book, setup.bits());
            for (int a = -2; a <= 2; a++) {
                Talk.tell(x, flat(flat(Packets.shortSound())).put(0, 2).word(words[m + 2]).word(words[a + 2]));
                int first = a > 0 ? m : m > 0 ? m + a : m - a;
                int second = a > 0 ? m > 0 ? m - a : m + a : m;
                CHECK.due("channel 0 of " + m + " and " + a, x.value(0, 0), first);
                CHECK.due("channel 1 of " + m + " and " + a, x.value(1, 0), second);
                CHECK.due("a place without a value", x.value(1, 1), 0);
            }
        }
        // The same by hand.
        int[][] byHand = {{2, 1, 2, 1}, {2, -1, 1, 2}, {2, 0, 2, 2}, {-2, 1, -2, -1}, {-2, -1, -1, -2}, {-2, 0, -2, -2}, {0, 1, 0, 1}, {0, -1, 1, 0}, {0, 0, 0, 0}};
        for (int[] c : byHand) {
            LacedSound x = with(Packets.format(2, 0, 0), Packets.lengths(1, 1).put(0, 2), book, setup.bits());
            Talk.tell(x, flat(flat(Packets.shortSound())).put(0, 2).word(words[c[0] + 2]).word(words[c[1] + 2]));
            CHECK.due("by hand: channel 0 of " + c[0] + " and " + c[1], x.value(0, 0), c[2]);
            CHECK.due("by hand: channel 1 of " + c[0] + " and " + c[1], x.value(1, 0), c[3]);
        }
    }

    private static void joinedOn() {
        CHECK.sentence("At last, if JOINED, at each place, with m the value of channel 0 and a that of channel 1 (both ON or not)");
        for (int mode = 0; mode < 3; mode++) {
            Setup setup = fives(0, 63);
            setup.mode = mode;
            setup.joined = 1;
            LacedSound x = fivesWith(2, setup);
            Talk.tell(x, flat(Packets.longSound(0)).put(0, 1).put(0, 32));
            CHECK.due("MODE " + mode + ": block()", x.block(), 9);
            for (int place = 0; place < 8; place++) {
                CHECK.due("MODE " + mode + ": value(0, " + place + ")", x.value(0, place), 5);
                CHECK.due("MODE " + mode + ": value(1, " + place + ")", x.value(1, place), 0);
            }
        }
        // Only channel 0 has values when the packet is OUT: 5 and 0 become 5 and 5.
        Setup setup = fives(0, 8);
        setup.partSize = 8;
        setup.joined = 1;
        LacedSound x = with(Packets.format(2, 1, 1), Packets.lengths(1, 1).put(0, 2), always(5, 0, 0), setup.bits());
        Bits sound = flat(Packets.shortSound()).put(0, 1).put(0, 2).put(0, 8);
        CHECK.due("bits", sound.count(), 24);
        tell(x, sound, 0);
        CHECK.due("block()", x.block(), 8 + 32);
        valuesAre("channel 1 is OUT", x, 0, 5, 5, 5, 5, 5, 5, 5, 5);
        valuesAre("channel 1 is OUT", x, 1, 5, 5, 5, 5, 5, 5, 5, 5);
    }

    /** Channel 0 and 1 of the block before the last step, as far as so many bits reach. */
    private static int[][] partsWithin(int bits, int mode, int partSize) {
        int[][] values = new int[2][8];
        int rows = mode == 2 ? 1 : 2;
        int parts = 16 / rows / partSize;
        int left = bits;
        for (int pass = 0; pass < 2; pass++) {
            for (int part = 0; part < parts; part++) {
                left -= pass == 0 ? rows : 0;
                for (int k = 0; k < rows * partSize; k++) {
                    left--;
                    if (left < 0) {
                        return values;
                    }
                    int cell = part * partSize + k % partSize;
                    int channel = mode == 2 ? cell % 2 : k / partSize;
                    values[channel][mode == 2 ? cell / 2 : cell] += pass == 0 ? 5 : -7;
                }
            }
        }
        return values;
    }

    private static void joinedBehindOut() {
        CHECK.sentence("A read that is OUT ends all of this; what was added before stays. At last, if JOINED, at each place, with m the value of channel 0 and a that of channel 1 (both ON or not):");
        for (int mode = 0; mode < 3; mode++) {
            for (int partSize = 1; partSize <= 8; partSize *= 2) {
                Setup setup = fives(0, 63);
                setup.mode = mode;
                setup.partSize = partSize;
                setup.joined = 1;
                setup.has = 3;
                setup.books = new int[] {1, 2};
                LacedSound x = with(Packets.format(2, 1, 1), Packets.lengths(1, 1).put(0, 2), always(5, 0, 0), always(-7, 0, 0), setup.bits());
                // 14 bits, then a bit for each kind and 32 for the values of both passes.
                int needed = 32 + 16 / partSize;
                Bits sound = flat(Packets.shortSound()).put(0, 1).put(0, 30).put(0, 28);
                for (int bytes = 2; bytes <= 9; bytes++) {
                    int bits = 8 * bytes - 14;
                    String what = "MODE " + mode + ", parts of " + partSize + ", " + bytes + " bytes";
                    tell(x, sound, 9 - bytes);
                    CHECK.due(what + ": block()", x.block(), bits < needed ? 8 + 32 : 8);
                    int[][] before = partsWithin(bits, mode, partSize);
                    for (int k = 0; k < 8; k++) {
                        int m = before[0][k];
                        int a = before[1][k];
                        CHECK.due(what + ": value(0, " + k + ")", x.value(0, k), a > 0 ? m : m > 0 ? m + a : m - a);
                        CHECK.due(what + ": value(1, " + k + ")", x.value(1, k), a <= 0 ? m : m > 0 ? m - a : m + a);
                    }
                }
            }
        }
        // By hand: parts 0 and 1 of both rows, and the kinds of part 2; 5 and 5 become 5 and 0.
        Setup setup = fives(0, 63);
        setup.joined = 1;
        LacedSound x = with(Packets.format(2, 1, 1), Packets.lengths(1, 1).put(0, 2), always(5, 0, 0), setup.bits());
        tell(x, flat(Packets.shortSound()).put(0, 11), 0);
        CHECK.due("block()", x.block(), 8 + 32);
        valuesAre("part 2 is OUT", x, 0, 5, 5, 0, 0, 0, 0, 0, 0);
        valuesAre("part 2 is OUT", x, 1, 0, 0, 0, 0, 0, 0, 0, 0);
        // Channel 1 is OUT: nothing is added, and 0 and 0 stay.
        tell(x, flat(Packets.shortSound()).put(1, 3), 0);
        CHECK.due("block()", x.block(), 8 + 32);
        valuesAre("channel 1 is OUT", x, 0, 0, 0, 0, 0, 0, 0, 0, 0);
        valuesAre("channel 1 is OUT", x, 1, 0, 0, 0, 0, 0, 0, 0, 0);
    }

    private static void joinedLongest() {
        CHECK.sentence("At last, if JOINED, at each place");
        Setup setup = fives(31, 32);
        setup.joined = 1;
        LacedSound x = with(Packets.format(2, 3, 3), Packets.lengths(1, 1).put(0, 2), always(5, 0, 0), setup.bits());
        tell(x, flat(flat(Packets.shortSound())).put(0, 4), 0);
        CHECK.due("block()", x.block(), 24);
        for (int place = 0; place < 32; place++) {
            CHECK.due("value(0, " + place + ")", x.value(0, place), place == 31 ? 5 : 0);
            CHECK.due("value(1, " + place + ")", x.value(1, place), 0);
        }
    }

    private static void joinedWithoutValues() {
        CHECK.sentence("(both ON or not)");
        Setup setup = fives(0, 4);
        setup.joined = 1;
        LacedSound x = fivesWith(2, setup);
        Talk.tell(x, flat(Packets.shortSound()).put(0, 1).put(0, 16));
        valuesAre("one used", x, 0, 5, 5, 5, 5);
        Talk.tell(x, Packets.shortSound().put(0, 2).put(0, 20));
        valuesAre("none used", x, 0, 0, 0, 0, 0);
        valuesAre("none used", x, 1, 0, 0, 0, 0);
    }

    private static void valuesOutside() {
        CHECK.sentence("The value of a channel (from 0) of the block at a place; 0 when there is no block, channel or place of that number.");
        CHECK.due("value(0, 0) of a new object", new LacedSound().value(0, 0), 0);
        int[] outside = {-1, Integer.MIN_VALUE, Integer.MAX_VALUE};
        for (int channels = 1; channels <= 2; channels++) {
            LacedSound x = fivesWith(channels, fives(0, 63));
            CHECK.due("value(0, 0) without a block", x.value(0, 0), 0);
            for (int size = 8; size >= 4; size -= 4) {
                Bits sound = flat(size == 4 ? Packets.shortSound() : Packets.longSound(0));
                sound = channels == 2 ? flat(sound) : sound;
                Talk.tell(x, sound.put(0, 32));
                for (int k : outside) {
                    CHECK.due("value(0, " + k + ")", x.value(0, k), 0);
                    CHECK.due("value(" + k + ", 0)", x.value(k, 0), 0);
                }
                for (int c = 0; c < 4; c++) {
                    int due = c < channels ? 5 : 0;
                    CHECK.due("value(" + c + ", 0)", x.value(c, 0), due);
                    CHECK.due("value(" + c + ", " + (size - 1) + ")", x.value(c, size - 1), due);
                    // Behind the last place of a short block there was a value in the long one.
                    CHECK.due("value(" + c + ", " + size + ")", x.value(c, size), 0);
                    CHECK.due("value(" + c + ", 32)", x.value(c, 32), 0);
                }
            }
            Talk.tell(x, Packets.format(channels, 0, 1));
            CHECK.due("value(0, 0) behind a FORMAT", x.value(0, 0), 0);
        }
    }
}
