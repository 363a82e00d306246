import java.util.List;

/** The boundaries of promises 18 and 19 and of a SOUND's curves, sentence by sentence. */
public final class CurveEdgesTest {
    private static final Check CHECK = new Check("CurveEdgesTest");
    private static final int[] WIDTHS = {5, 4, 4, 3};
    private static final int[] RANGES = {32, 16, 12, 8};
    /** Words of 1, 2, 3, 4, 5, 6, 7 and 7 bits. */
    private static final int[] STAIRS = {1, 2, 3, 4, 5, 6, 7, 7};

    public static void main(String[] args) {
        withoutSetup();
        shapes();
        soundOfOneByte();
        blocks();
        everyNumber();
        masterEntries();
        subbookOfAPart();
        booksOfBothClasses();
        twelvePoints();
        noBookIsZero();
        outInTheFlag();
        outInANumber();
        outInAnEntry();
        everyHeight();
        endsAreSet();
        notSet();
        setTooFromNowOn();
        leftAndRight();
        everyLine();
        leftOneAtTheSamePlace();
        behindTheLastPoint();
        notUsed();
        curvesOutside();
        CHECK.end();
    }

    private static LacedSound with(Bits... packets) {
        LacedSound x = new LacedSound();
        for (Bits packet : packets) {
            CHECK.due("a packet that is good", Talk.tell(x, packet) > 0, true);
        }
        return x;
    }

    /** A curve with one part of class 0, not SPLIT, that reads its points from book 0. */
    private static Setup onePart(int g, int r, int... places) {
        Setup setup = new Setup();
        setup.g = g;
        setup.r = r;
        setup.parts = new int[places.length == 0 ? 0 : 1];
        setup.size[0] = Math.max(1, places.length);
        setup.subbooks[0][0] = 1;
        setup.places = places;
        return setup;
    }

    private static Bits numbers(Bits sound, int g, int first, int second) {
        return sound.put(1, 1).put(first, WIDTHS[g]).put(second, WIDTHS[g]);
    }

    private static String digits(int number) {
        return Integer.toBinaryString(8 | number).substring(1);
    }

    private static void withoutSetup() {
        CHECK.sentence("SOUND: refused if there is no setup.");
        List<Integer> sound = Packets.channel(Packets.shortSound(), 3, 4).bytes();
        Twins.refusedPacket(CHECK, "a SOUND on a new object", x -> { }, sound);
        Twins.refusedPacket(CHECK, "a SOUND with a FORMAT and a book", x -> {
            Talk.tell(x, Packets.evenBook(1, 1));
            Talk.tell(x, Packets.format(2, 0, 1));
        }, sound);
        Twins.refusedPacket(CHECK, "a SOUND behind another FORMAT", x -> {
            Packets.live(x);
            Talk.tell(x, Packets.format(2, 0, 1));
        }, sound);
        LacedSound x = with(Packets.evenBook(1, 1), Packets.format(2, 0, 1), new Setup().bits());
        CHECK.due("a SOUND with a setup", Talk.tell(x, Packets.channel(Packets.shortSound(), 3, 4)), 2);
    }

    private static void shapes() {
        CHECK.sentence("1 bit, whether the block is long; a long one has 2 bits more: WINGS, the first bit its first wing, the second its second.");
        LacedSound x = with(Packets.format(1, 0, 1), Packets.evenBook(1, 1), new Setup().bits());
        for (int wings = 0; wings < 4; wings++) {
            Talk.tell(x, Packets.channel(Packets.longSound(wings), 9, 9));
            CHECK.due("block() with wings " + wings, x.block(), 1 + 2 * wings + 8);
            CHECK.due("curve(0, 7)", x.curve(0, 7), 9);
            Talk.tell(x, Packets.channel(Packets.shortSound(), 8, 8));
            CHECK.due("block() of a short one", x.block(), 8);
            CHECK.due("curve(0, 3)", x.curve(0, 3), 8);
            CHECK.due("curve(0, 4)", x.curve(0, 4), -1);
        }
    }

    private static void soundOfOneByte() {
        CHECK.sentence("Refused if OUT so far. Otherwise it is accepted, and this is the block from now on.");
        LacedSound x = with(Packets.format(2, 0, 1), Packets.evenBook(1, 1), new Setup().bits());
        CHECK.due("one byte, long", Talk.tell(x, Packets.longSound(3).put(0, 4)), 2);
        CHECK.due("block()", x.block(), 7);
        CHECK.due("one byte, both channels cut off", Talk.tell(x, Packets.shortSound().put(63, 6)), 2);
        CHECK.due("block()", x.block(), 32);
    }

    private static void blocks() {
        CHECK.sentence("8 if channel 0 is used, 16 if channel 1 is, 32 if its packet was OUT somewhere. NONE when there is none.");
        LacedSound x = new LacedSound();
        CHECK.due("block() of a new object", x.block(), -1);
        Talk.tell(x, Packets.evenBook(1, 1));
        Talk.tell(x, Packets.format(2, 0, 1));
        CHECK.due("block() with a FORMAT", x.block(), -1);
        Talk.tell(x, new Setup().bits());
        CHECK.due("block() with a setup", x.block(), -1);
        for (int used = 0; used < 4; used++) {
            Bits sound = Packets.longSound(0);
            for (int c = 0; c < 2; c++) {
                sound = (used >> c & 1) == 1 ? Packets.channel(sound, 5, 5) : sound.put(0, 1);
            }
            Talk.tell(x, sound);
            CHECK.due("block() with channels " + used, x.block(), 1 + 8 * used);
        }
        Talk.tell(x, Packets.channel(Packets.shortSound(), 5, 5).put(1, 1));
        CHECK.due("block() with channel 1 OUT", x.block(), 8 + 32);
        Talk.tell(x, Packets.shortSound().put(0, 2));
        CHECK.due("block() of the next one", x.block(), 0);
        Talk.tell(x, Packets.format(2, 0, 1));
        CHECK.due("block() with another FORMAT", x.block(), -1);
    }

    private static void everyNumber() {
        CHECK.sentence("points 0 and 1 have a number each, of 5, 4, 4, 3 bits for G = 0, 1, 2, 3, taken as RANGE - 1 if above it");
        for (int g = 0; g < 4; g++) {
            LacedSound x = with(Packets.format(2, 1, 1), Packets.evenBook(1, 1), onePart(g, 0).bits());
            for (int number = 0; number < 1 << WIDTHS[g]; number++) {
                Bits sound = numbers(numbers(Packets.shortSound(), g, number, 0), g, 0, number);
                Talk.bring(x, 0, 0, false, sound.bytes());
                x.take();
                int due = Math.min(number, RANGES[g] - 1) * (g + 1);
                CHECK.due("point 0 of number " + number + ", G " + g, x.curve(0, 0), due);
                CHECK.due("point 1 of number " + number + ", G " + g, x.curve(1, 4), due);
                CHECK.due("block()", x.block(), 24);
                if (number == 15) {
                    x = with(Packets.format(2, 1, 1), Packets.evenBook(1, 1), onePart(g, 0).bits());
                }
            }
        }
    }

    private static void masterEntries() {
        CHECK.sentence("the subbook is the one numbered v mod 2 if SPLIT, else 0; if SPLIT, v becomes v / 2");
        // Book 1 has the one used entry 3, which takes one bit; subbook 0 is no book.
        Bits lone = Packets.book(1, 4, 0).put(1, 1).put(0, 3).put(1, 1).put(0, 3).put(0, 2);
        for (int size = 1; size <= 4; size++) {
            for (int v = 0; v < 8; v++) {
                Setup setup = onePart(0, 3, java.util.Arrays.copyOf(new int[] {8, 16, 24, 28}, size));
                setup.split[0] = 1;
                setup.subbooks[0] = new int[] {0, 2};
                LacedSound x = with(Packets.format(2, 3, 3), Packets.evenBook(1, 3), lone, setup.bits());
                int reads = Integer.bitCount(v & (1 << size) - 1);
                Bits sound = Packets.channel(Packets.shortSound(), 10, 10).word(digits(v)).put(0, reads);
                Talk.tell(x, Packets.channel(sound, 21, 21).word("000"));
                CHECK.due("the channel behind, for " + v + " over " + size, x.curve(1, 31), 21);
                CHECK.due("block()", x.block(), 24);
                CHECK.due("the first point, for " + v, x.curve(0, 8), v % 2 == 1 ? 8 : 10);
            }
        }
    }

    private static void subbookOfAPart() {
        CHECK.sentence("then for every part in order: v is 0, or, if its class is SPLIT, the entry that is read from the master book");
        // Without SPLIT each point reads subbook 0, whatever was read before.
        for (int number = 0; number < 8; number++) {
            LacedSound x = with(Packets.format(1, 3, 3), Packets.evenBook(1, 3), onePart(0, 3, 8, 16).bits());
            Talk.tell(x, Packets.channel(Packets.shortSound(), 10, 10).word(digits(number)).word("000"));
            int due = number % 2 == 1 ? 10 - (number + 1) / 2 : 10 + number / 2;
            CHECK.due("the point at 8 of number " + number, x.curve(0, 8), due);
            CHECK.due("block()", x.block(), 8);
        }
    }

    private static void booksOfBothClasses() {
        CHECK.sentence("then for every part in order: v is 0, or, if its class is SPLIT, the entry that is read from the master book");
        // Each of the four subbooks is a book of its own: words of 1, 2 and 3 bits, and no book.
        Setup setup = new Setup();
        setup.parts = new int[] {1, 0, 1};
        setup.size = new int[] {2, 2};
        setup.split = new int[] {1, 1};
        setup.master = new int[] {1, 2};
        setup.subbooks = new int[][] {{2, 0}, {1, 3}};
        setup.places = new int[] {16, 8, 24, 4, 28, 12};
        LacedSound x = with(Packets.format(2, 3, 3), Packets.evenBook(1, 1), Packets.evenBook(1, 2), Packets.evenBook(1, 3), setup.bits());
        // Class 1: 1 is subbook 1, then 0. Class 0: 2 is subbook 0, then 1. Class 1: 6 is 0, then 1.
        Bits sound = Packets.channel(Packets.shortSound(), 20, 20);
        sound.word("001").word("110").word("1");
        sound.word("10").word("11");
        sound.word("110").word("0").word("101");
        Talk.tell(x, Packets.channel(sound, 9, 9).word("00000").word("000000").word("00000"));
        CHECK.due("block()", x.block(), 24);
        CHECK.due("the channel behind", x.curve(1, 31), 9);
        // 16: 20 and 6 is 23. 8: 21 and 1 is 20. 24: 22 and 3 is 20. 4: on the line of 20 and 20.
        // 28: on the line of 20 and 20. 12: 21 and 5 is 18.
        int[] places = {4, 8, 12, 16, 24, 28};
        int[] due = {20, 20, 18, 23, 20, 20};
        for (int k = 0; k < places.length; k++) {
            CHECK.due("curve(0, " + places[k] + ")", x.curve(0, places[k]), due[k]);
        }
    }

    private static void twelvePoints() {
        CHECK.sentence("for each of its points in order");
        Setup setup = onePart(0, 3, 2, 4, 6, 8, 10, 12, 14, 16, 18, 20, 22, 24);
        setup.parts = new int[] {0, 0, 0};
        setup.size[0] = 4;
        LacedSound x = with(Packets.format(2, 3, 3), Packets.evenBook(1, 1), setup.bits());
        Bits sound = Packets.channel(Packets.shortSound(), 20, 20).word("111111111111");
        Talk.tell(x, Packets.channel(sound, 5, 5).word("000000000001"));
        CHECK.due("block()", x.block(), 24);
        // Each point is 1 below the line from the one before it to point 1.
        int height = 20;
        for (int k = 1; k <= 12; k++) {
            int q = (20 - height) * 2 / (32 - 2 * k + 2);
            height = height + q - 1;
            CHECK.due("curve(0, " + 2 * k + ")", x.curve(0, 2 * k), height);
        }
        int[] due = {5, 5, 4, 4};
        int[] places = {0, 22, 24, 31};
        for (int k = 0; k < places.length; k++) {
            CHECK.due("curve(1, " + places[k] + ")", x.curve(1, places[k]), due[k]);
        }
    }

    private static void noBookIsZero() {
        CHECK.sentence("the point's number is the entry that is read from that subbook, 0 if it is no book.");
        Setup setup = onePart(1, 3, 16);
        setup.subbooks[0][0] = 0;
        LacedSound x = with(Packets.format(2, 3, 3), Packets.evenBook(1, 3), setup.bits());
        Talk.tell(x, numbers(numbers(Packets.shortSound(), 1, 0, 3), 1, 9, 9));
        CHECK.due("block()", x.block(), 24);
        CHECK.due("the point is not SET", x.curve(0, 16), 3);
        CHECK.due("no bit was read", x.curve(1, 0), 18);
    }

    private static void outInTheFlag() {
        CHECK.sentence("If a read for a channel is OUT, the channel is not used.");
        LacedSound x = with(Packets.format(2, 0, 0), Packets.evenBook(1, 3), onePart(0, 0, 2).bits());
        Bits sound = Packets.channel(Packets.shortSound(), 8, 8).word("000");
        CHECK.due("bits", sound.count(), 16);
        Talk.tell(x, sound);
        CHECK.due("block() with the bit of channel 1 OUT", x.block(), 8 + 32);
        CHECK.due("curve(0, 3)", x.curve(0, 3), 8);
        CHECK.due("curve(1, 3)", x.curve(1, 3), 0);
        Talk.tell(x, sound.put(0, 8));
        CHECK.due("block() with that bit", x.block(), 8);
    }

    private static void outInANumber() {
        CHECK.sentence("If a read for a channel is OUT, the channel is not used.");
        LacedSound x = with(Packets.format(2, 0, 1), Packets.evenBook(1, 3), new Setup().bits());
        Talk.tell(x, Packets.channel(Packets.channel(Packets.longSound(0), 8, 8), 9, 9));
        CHECK.due("block() of a good one", x.block(), 25);
        // 4 + 1 + 3 bits of the first number; and 2 + 1 + 5 bits with no bit of the second.
        Talk.tell(x, Packets.longSound(0).put(1, 1).put(7, 3));
        CHECK.due("block() with number 0 OUT", x.block(), 1 + 32);
        CHECK.due("curve(0, 0) with number 0 OUT", x.curve(0, 0), 0);
        CHECK.due("curve(1, 0) with number 0 OUT", x.curve(1, 0), 0);
        Talk.tell(x, Packets.shortSound().put(1, 1).put(31, 5));
        CHECK.due("block() with number 1 OUT", x.block(), 32);
        CHECK.due("curve(0, 0) with number 1 OUT", x.curve(0, 0), 0);
        // Channel 1 has 4 + 11 + 1 + 5 + 3 bits: its second number lacks two.
        Talk.tell(x, Packets.channel(Packets.longSound(0), 8, 8).put(1, 1).put(9, 5).put(7, 3));
        CHECK.due("block() with number 1 of channel 1 OUT", x.block(), 1 + 8 + 32);
        CHECK.due("curve(0, 7)", x.curve(0, 7), 8);
        CHECK.due("curve(1, 0)", x.curve(1, 0), 0);
        // One channel of 2 + 1 + 5 + 5 bits has all it needs in two bytes, and G = 3 in one less.
        LacedSound y = with(Packets.format(1, 0, 1), Packets.evenBook(1, 3), onePart(3, 0).bits());
        Talk.tell(y, Packets.longSound(0).put(1, 1).put(7, 3));
        CHECK.due("block() with number 0 there and number 1 OUT", y.block(), 1 + 32);
        Talk.tell(y, numbers(Packets.shortSound(), 3, 7, 7));
        CHECK.due("block() with both there", y.block(), 8);
    }

    private static void outInAnEntry() {
        CHECK.sentence("If a read for a channel is OUT, the channel is not used.");
        LacedSound x = with(Packets.format(1, 0, 0), Packets.lengths(1, STAIRS).put(0, 2), onePart(0, 0, 2).bits());
        Talk.tell(x, Packets.channel(Packets.shortSound(), 8, 8).word("110"));
        CHECK.due("block() with a word of three bits", x.block(), 8);
        CHECK.due("curve(0, 2)", x.curve(0, 2), 9);
        Talk.tell(x, Packets.channel(Packets.shortSound(), 8, 8).word("111"));
        CHECK.due("block() with three bits of a longer word", x.block(), 32);
        CHECK.due("curve(0, 2)", x.curve(0, 2), 0);
        Talk.tell(x, Packets.channel(Packets.shortSound(), 8, 8).word("1111111"));
        CHECK.due("block() with the longest word", x.block(), 8);
        // The same for a master book, whose entry 1 lets the point be read from book 0.
        Setup setup = onePart(0, 0, 2);
        setup.split[0] = 1;
        setup.subbooks[0] = new int[] {0, 1};
        LacedSound y = with(Packets.format(1, 0, 0), Packets.lengths(1, STAIRS).put(0, 2), setup.bits());
        Talk.tell(y, Packets.channel(Packets.shortSound(), 8, 8).word("110"));
        CHECK.due("block() with a master's word", y.block(), 8);
        Talk.tell(y, Packets.channel(Packets.shortSound(), 8, 8).word("111"));
        CHECK.due("block() with a part of it", y.block(), 32);
        Talk.tell(y, Packets.channel(Packets.shortSound(), 8, 8).word("10").word("1"));
        CHECK.due("block() with the subbook's word OUT", y.block(), 32);
        Talk.tell(y, Packets.channel(Packets.shortSound(), 8, 8).word("10").word("0"));
        CHECK.due("block() with both words", y.block(), 8);
    }

    private static int heightOf(int v, int p, int range) {
        int d = range - p;
        if (v == 0) {
            return p;
        }
        if (v < 2 * Math.min(d, p)) {
            return v % 2 == 1 ? p - (v + 1) / 2 : p + v / 2;
        }
        return d > p ? v : range - 1 - v;
    }

    private static void everyHeight() {
        CHECK.sentence("If v < 2 * min(d, p): the height is p - (v + 1) / 2 if v is odd, p + v / 2 if it is even. Otherwise: v if d > p, else RANGE - 1 - v.");
        for (int g = 0; g < 4; g++) {
            for (int p = 0; p < RANGES[g]; p++) {
                LacedSound x = with(Packets.format(1, 1, 1), Packets.evenBook(1, 3), onePart(g, 1, 4).bits());
                for (int v = 0; v < 8; v++) {
                    Talk.tell(x, numbers(Packets.shortSound(), g, p, p).word(digits(v)));
                    CHECK.due("number " + v + " at " + p + " of " + RANGES[g], x.curve(0, 4), heightOf(v, p, RANGES[g]) * (g + 1));
                    CHECK.due("the place ahead of point 1", x.curve(0, 0), p * (g + 1));
                }
            }
        }
        // By hand, with RANGE 8: d and p are 5 and 3, 4 and 4, 3 and 5.
        int[][] byHand = {{3, 5, 0}, {3, 6, 6}, {3, 4, 5}, {4, 7, 0}, {4, 6, 7}, {5, 5, 2}, {5, 6, 1}, {5, 7, 0}, {0, 1, 1}, {7, 1, 6}, {7, 2, 5}};
        for (int[] c : byHand) {
            CHECK.due("number " + c[1] + " at " + c[0], heightOf(c[1], c[0], 8), c[2]);
        }
    }

    private static void endsAreSet() {
        CHECK.sentence("HEIGHTS of the points: those of 0 and 1 are their numbers, and both are SET.");
        LacedSound x = with(Packets.format(1, 1, 1), Packets.evenBook(1, 3), onePart(0, 0, 1, 2, 3).bits());
        // A number of 0 counts as a height of points 0 and 1, and they are SET all the same.
        int[][] ends = {{0, 0}, {0, 31}, {31, 0}, {31, 31}};
        for (int[] pair : ends) {
            Talk.tell(x, Packets.channel(Packets.shortSound(), pair[0], pair[1]).word("000").word("000").word("000"));
            CHECK.due("point 0 of " + pair[0], x.curve(0, 0), pair[0]);
            CHECK.due("point 1 of " + pair[1], x.curve(0, 4), pair[1]);
            CHECK.due("behind point 1", x.curve(0, 7), pair[1]);
            CHECK.due("half way", x.curve(0, 2), pair[0] > pair[1] ? 16 : (pair[0] + pair[1]) / 2);
        }
    }

    private static void notSet() {
        CHECK.sentence("If v is 0, the height is p, and the point is not SET.");
        LacedSound x = with(Packets.format(1, 2, 2), Packets.evenBook(1, 3), onePart(1, 2, 8).bits());
        Talk.tell(x, numbers(Packets.shortSound(), 1, 0, 3).word("000"));
        // On the line from 0 to 6 there is 3 at 8; a point that is SET there has 1, times 2.
        CHECK.due("curve(0, 8)", x.curve(0, 8), 3);
        CHECK.due("curve(0, 15)", x.curve(0, 15), 5);
        Talk.tell(x, numbers(Packets.shortSound(), 1, 0, 3).word("001"));
        CHECK.due("curve(0, 8) of a point that is SET", x.curve(0, 8), 0);
    }

    private static void setTooFromNowOn() {
        CHECK.sentence("Else it is SET, and LEFT and RIGHT are SET too (from now on).");
        int[] sides = {4, 12};
        for (int side : sides) {
            LacedSound x = with(Packets.format(1, 2, 2), Packets.evenBook(1, 3), onePart(1, 2, 8, side).bits());
            Talk.tell(x, numbers(Packets.shortSound(), 1, 0, 3).word("000").word("000"));
            CHECK.due("8 is not SET with " + side, x.curve(0, 8), 3);
            Talk.tell(x, numbers(Packets.shortSound(), 1, 0, 3).word("000").word("010"));
            CHECK.due("8 is SET with " + side, x.curve(0, 8), 2);
            // The block behind it begins anew.
            Talk.tell(x, numbers(Packets.shortSound(), 1, 0, 3).word("000").word("000"));
            CHECK.due("8 is not SET in the next block", x.curve(0, 8), 3);
        }
    }

    private static void leftAndRight() {
        CHECK.sentence("among the points before it: the LEFT one is the one at the greatest place below its own, the RIGHT one that at the least place above it");
        LacedSound x = with(Packets.format(1, 3, 3), Packets.lengths(1, 3, 3, 3, 3, 3, 3, 3, 3).put(0, 2), onePart(0, 3, 16, 24, 8, 20).bits());
        Talk.tell(x, Packets.channel(Packets.shortSound(), 5, 15).word("111").word("010").word("101").word("110"));
        // 16: 10 on the line, 7 is 6. 24: 10 on the line of 6 and 15, 2 is 11. 8: 5 on the line of
        // 5 and 6, 5 is 2. 20: 8 on the line of 6 and 11, 6 is 11.
        int[] places = {0, 8, 16, 20, 24, 31};
        int[] due = {5, 2, 6, 11, 11, 14};
        for (int k = 0; k < places.length; k++) {
            CHECK.due("curve(0, " + places[k] + ")", x.curve(0, places[k]), due[k]);
        }
    }

    private static void everyLine() {
        CHECK.sentence("has at x the height y0 + q if y1 >= y0, and else y0 - q, where q is |y1 - y0| * (x - x0) / (x1 - x0) rounded down.");
        for (int y0 = 0; y0 < 8; y0++) {
            LacedSound x = with(Packets.format(1, 1, 1), Packets.evenBook(1, 3), onePart(3, 1).bits());
            for (int y1 = 0; y1 < 8; y1++) {
                Talk.tell(x, numbers(Packets.shortSound(), 3, y0, y1));
                for (int at = 0; at < 8; at++) {
                    int q = 4 * Math.abs(y1 - y0) * at / 8;
                    CHECK.due("from " + y0 + " to " + y1 + " at " + at, x.curve(0, at), y1 >= y0 ? 4 * y0 + q : 4 * y0 - q);
                }
            }
        }
    }

    private static void leftOneAtTheSamePlace() {
        CHECK.sentence("the LINE between the neighbouring SET points around x (the left one may be at x), with their heights times FACTOR");
        LacedSound x = with(Packets.format(1, 1, 1), Packets.evenBook(1, 3), onePart(3, 1, 1, 7, 4).bits());
        // At 1: 3 + 1 = 4. At 7: on the line from 4 to 3 there is 4; 5 is 1. At 4: 3 on the line of
        // 4 and 1, and 2 is 4.
        Talk.tell(x, numbers(Packets.shortSound(), 3, 3, 3).word("010").word("101").word("010"));
        int[] due = {12, 16, 16, 16, 16, 12, 8, 4};
        for (int at = 0; at < 8; at++) {
            CHECK.due("curve(0, " + at + ")", x.curve(0, at), due[at]);
        }
    }

    private static void behindTheLastPoint() {
        CHECK.sentence("from the last SET point on it is that point's height times FACTOR.");
        for (int r = 0; r < 4; r++) {
            LacedSound x = with(Packets.format(1, 3, 3), Packets.evenBook(1, 3), onePart(1, r).bits());
            Talk.tell(x, numbers(Packets.shortSound(), 1, 15, 0));
            int end = 4 << r;
            CHECK.due("the place ahead of " + end, x.curve(0, end - 1), 30 - 30 * (end - 1) / end);
            for (int at = end; at < 32; at++) {
                CHECK.due("behind " + end + ", at " + at, x.curve(0, at), 0);
            }
            Talk.tell(x, numbers(Packets.shortSound(), 1, 0, 15));
            CHECK.due("the place ahead of " + end, x.curve(0, end - 1), 30 * (end - 1) / end);
            for (int at = end; at < 32; at++) {
                CHECK.due("behind " + end + ", at " + at, x.curve(0, at), 30);
            }
        }
    }

    private static void notUsed() {
        CHECK.sentence("The curve of a channel that is not used is 0.");
        LacedSound x = with(Packets.format(2, 0, 1), Packets.evenBook(1, 3), new Setup().bits());
        Talk.tell(x, Packets.channel(Packets.channel(Packets.longSound(0), 8, 8), 9, 9));
        Talk.tell(x, Packets.channel(Packets.longSound(0).put(0, 1), 7, 7));
        for (int at = 0; at < 8; at++) {
            CHECK.due("curve(0, " + at + ")", x.curve(0, at), 0);
            CHECK.due("curve(1, " + at + ")", x.curve(1, at), 7);
        }
        Talk.tell(x, Packets.longSound(0).put(0, 2));
        for (int at = 0; at < 8; at++) {
            CHECK.due("curve(1, " + at + ") with none used", x.curve(1, at), 0);
        }
    }

    private static void curvesOutside() {
        CHECK.sentence("The curve of a channel (from 0) of the block at a place; NONE when there is no block, channel or place of that number.");
        CHECK.due("curve(0, 0) of a new object", new LacedSound().curve(0, 0), -1);
        int[] outside = {-1, Integer.MIN_VALUE, Integer.MAX_VALUE};
        for (int channels = 1; channels <= 2; channels++) {
            LacedSound x = with(Packets.format(channels, 0, 3), Packets.evenBook(1, 3), new Setup().bits());
            CHECK.due("curve(0, 0) without a block", x.curve(0, 0), -1);
            for (int size = 4; size <= 32; size += 28) {
                Bits sound = size == 4 ? Packets.shortSound() : Packets.longSound(0);
                Talk.tell(x, Packets.channel(Packets.channel(sound, 8, 8), 8, 8));
                for (int k : outside) {
                    CHECK.due("curve(0, " + k + ")", x.curve(0, k), -1);
                    CHECK.due("curve(" + k + ", 0)", x.curve(k, 0), -1);
                }
                for (int c = 0; c < 4; c++) {
                    boolean there = c < channels;
                    CHECK.due("curve(" + c + ", 0)", x.curve(c, 0), there ? 8 : -1);
                    CHECK.due("curve(" + c + ", " + (size - 1) + ")", x.curve(c, size - 1), there ? 8 : -1);
                    CHECK.due("curve(" + c + ", " + size + ")", x.curve(c, size), -1);
                    CHECK.due("curve(" + c + ", 32)", x.curve(c, 32), -1);
                }
            }
        }
    }
}
