/** Promises 16 and 18 to 21: SOUND packets. */
public final class SoundTest {
    private static final Check CHECK = new Check("SoundTest");

    public static void main(String[] args) {
        shapes();
        wrongPlaces();
        curveOfPoints();
        setNeighbours();
        heightsAtTheEdges();
        splitParts();
        clippedNumbers();
        outCurves();
        kindsAndPasses();
        modes();
        rowsInOrder();
        mixedChannels();
        clippedRange();
        vectorsOfKindOne();
        loneEntry();
        joinedChannels();
        joinedRows();
        outValues();
        sampleCounts();
        closing();
        refusedSound();
        CHECK.end();
    }

    private static LacedSound with(Bits... packets) {
        LacedSound x = new LacedSound();
        for (Bits packet : packets) {
            CHECK.due("take() of a packet that is good", Talk.tell(x, packet) > 0, true);
        }
        return x;
    }

    private static Bits shortSound() {
        return new Bits().put(0, 2);
    }

    private static Bits longSound(int wings) {
        return new Bits().put(0, 1).put(1, 1).put(wings, 2);
    }

    /** A channel that is used, and whose curve has the points 0 and 1 alone; for G = 0. */
    private static Bits flat(Bits sound, int height) {
        return sound.put(1, 1).put(height, 5).put(height, 5);
    }

    private static void curveIs(LacedSound x, int channel, int... due) {
        for (int k = 0; k < due.length; k++) {
            CHECK.due("curve(" + channel + ", " + k + ")", x.curve(channel, k), due[k]);
        }
    }

    private static void valuesAre(String what, LacedSound x, int channel, int... due) {
        for (int k = 0; k < due.length; k++) {
            CHECK.due(what + ": value(" + channel + ", " + k + ")", x.value(channel, k), due[k]);
        }
    }

    private static Bits noValues(Bits curve) {
        return Packets.values(curve, 1, 0, 0, 1, 1, 0).put(0, 2).put(0, 1);
    }

    private static void shapes() {
        LacedSound x = with(Packets.format(2, 0, 3), Packets.evenBook(1, 1), noValues(Packets.bareCurve(0, 0)));
        CHECK.due("block() without one", x.block(), -1);
        for (int wings = 0; wings < 4; wings++) {
            Talk.tell(x, longSound(wings).put(0, 4));
            CHECK.due("block() with wings " + wings, x.block(), 1 + 2 * wings);
        }
        CHECK.due("the last place of a long block", x.curve(1, 31), 0);
        CHECK.due("behind it", x.curve(1, 32), -1);
        Talk.tell(x, flat(shortSound().put(0, 1), 4));
        CHECK.due("block() with channel 1 used", x.block(), 16);
        CHECK.due("the last place of a short block", x.curve(1, 3), 4);
        CHECK.due("behind it", x.curve(1, 4), -1);
        Talk.tell(x, flat(flat(shortSound(), 4), 4));
        CHECK.due("block() with both used", x.block(), 24);
        Talk.tell(x, flat(shortSound(), 4).put(0, 1));
        CHECK.due("block() with channel 0 used", x.block(), 8);
        CHECK.due("the curve of a channel that is not used any more", x.curve(1, 3), 0);
        LacedSound y = with(Packets.format(1, 0, 1).put(-1, 3), Packets.evenBook(1, 1), noValues(Packets.bareCurve(0, 0)));
        Talk.tell(y, longSound(0).put(0, 4));
        CHECK.due("bits behind a FORMAT count for nothing", y.curve(0, 8), -1);
        CHECK.due("the last place of its long block", y.curve(0, 7), 0);
    }

    private static void wrongPlaces() {
        LacedSound x = with(Packets.format(1, 0, 0), Packets.evenBook(1, 1), noValues(Packets.bareCurve(0, 0)), flat(shortSound(), 3));
        int[] wrong = {-1, 4, 5, 31, 32, Integer.MIN_VALUE, Integer.MAX_VALUE};
        for (int place : wrong) {
            CHECK.due("curve(0, " + place + ")", x.curve(0, place), -1);
            CHECK.due("value(0, " + place + ")", x.value(0, place), 0);
        }
        int[] channels = {-1, 1, 2, Integer.MIN_VALUE, Integer.MAX_VALUE};
        for (int channel : channels) {
            CHECK.due("curve(" + channel + ", 0)", x.curve(channel, 0), -1);
            CHECK.due("value(" + channel + ", 0)", x.value(channel, 0), 0);
        }
        curveIs(x, 0, 3, 3, 3, 3);
    }

    /** A curve with one part of class 0, not SPLIT, with book 0 and points at these places. */
    private static Bits onePart(int g, int r, int... places) {
        Bits bits = new Bits().put(5, 8).put(g, 2).put(1, 2).put(0, 1);
        bits.put(places.length - 1, 2).put(0, 1).put(1, 3).put(r, 2);
        for (int place : places) {
            bits.put(place, r + 2);
        }
        return bits;
    }

    private static LacedSound curveOf(Bits curve) {
        return with(Packets.format(1, 3, 3), Packets.evenBook(1, 3), noValues(curve));
    }

    private static void curveOfPoints() {
        LacedSound x = curveOf(onePart(1, 2, 8, 4, 12));
        // At 8: 6 on the line, 5 gives 3. At 4: not SET. At 12: 3 on the line, 7 is 7.
        Talk.tell(x, shortSound().put(1, 1).put(10, 4).put(2, 4).word("101").word("000").word("111"));
        CHECK.due("block()", x.block(), 8);
        curveIs(x, 0, 20, 19, 17, 15, 13, 12, 10, 8, 6, 8, 10, 12, 14, 12, 9, 7);
        for (int k = 16; k < 32; k++) {
            CHECK.due("the curve behind point 1", x.curve(0, k), 4);
        }
        // At 8: 3 on the line of 0 and 6, 4 gives 5.
        Talk.tell(x, shortSound().put(1, 1).put(0, 4).put(6, 4).word("100").word("000").word("000"));
        curveIs(x, 0, 0, 1, 2, 3, 5, 6, 7, 8, 10, 10, 10, 10, 11, 11, 11, 11, 12, 12);
    }

    /** A point that is not SET at first becomes so with a neighbour behind it. */
    private static void setNeighbours() {
        LacedSound x = curveOf(onePart(1, 2, 8, 4));
        Talk.tell(x, shortSound().put(1, 1).put(0, 4).put(3, 4).word("000").word("000"));
        CHECK.due("8 is not SET", x.curve(0, 8), 3);
        // At 4 the line from 0 to 1 has 0; so 2 is 2, and 8 is SET at height 1.
        Talk.tell(x, shortSound().put(1, 1).put(0, 4).put(3, 4).word("000").word("010"));
        curveIs(x, 0, 0, 1, 2, 3, 4, 4, 3, 3, 2, 2, 3, 3, 4, 4, 5, 5, 6);
        // At 12 the line from 1 to 3 has 2; so 2 is 3, and 8 is SET as the left one.
        LacedSound y = curveOf(onePart(1, 2, 8, 12));
        Talk.tell(y, shortSound().put(1, 1).put(0, 4).put(3, 4).word("000").word("010"));
        curveIs(y, 0, 0, 0, 0, 0, 1, 1, 1, 1, 2, 3, 4, 5, 6, 6, 6, 6, 6);
    }

    private static void heightsAtTheEdges() {
        // RANGE 8, point at 4 of 8; the heights of points 0 and 1, the number, the height.
        int[][] cases = {
            {7, 7, 1, 6}, {7, 7, 2, 5}, {7, 7, 5, 2}, {7, 7, 7, 0},
            {0, 0, 1, 1}, {0, 0, 7, 7}, {3, 3, 5, 0}, {3, 3, 4, 5}, {3, 3, 6, 6}, {3, 3, 7, 7},
            {4, 4, 7, 0}, {4, 4, 6, 7}, {5, 5, 5, 2}, {5, 5, 6, 1}, {5, 5, 4, 7}, {0, 7, 2, 4}, {7, 0, 2, 5},
        };
        for (int[] c : cases) {
            LacedSound x = curveOf(onePart(3, 1, 4));
            Talk.tell(x, shortSound().put(1, 1).put(c[0], 3).put(c[1], 3).word(digits(c[2], 3)));
            CHECK.due("number " + c[2] + " between " + c[0] + " and " + c[1], x.curve(0, 4), 4 * c[3]);
        }
    }

    private static String digits(int number, int width) {
        return Integer.toBinaryString(number | 1 << width).substring(1);
    }

    /** Two parts of class 1 (SPLIT) and one of class 0, with points by the digits of the master's entry. */
    private static void splitParts() {
        Bits setup = new Bits().put(5, 8).put(0, 2).put(3, 2).put(1, 1).put(0, 1).put(1, 1);
        setup.put(0, 2).put(0, 1).put(2, 3);
        setup.put(2, 2).put(1, 1).put(0, 2).put(0, 3).put(2, 3);
        setup.put(3, 2);
        for (int k = 0; k < 7; k++) {
            setup.put(4 + 4 * k, 5);
        }
        LacedSound x = with(Packets.format(1, 3, 3), Packets.evenBook(1, 3), Packets.lengths(1, 1, 2, 2).put(0, 2), noValues(setup));
        Bits sound = shortSound().put(1, 1).put(10, 5).put(10, 5);
        // Part 0: 5 is 1, 0, 1: book 1, none, book 1. Part 1: book 1. Part 2: 2 is 0, 1, 0.
        sound.word("101").word("11").word("0");
        sound.word("10");
        sound.word("010").word("11");
        CHECK.due("SOUND", Talk.tell(x, sound), 2);
        CHECK.due("block()", x.block(), 8);
        // 4: 10 + 1. 8 and 12: on the line from 11 to 10, rounded to 11. 16: 11 - 1, and 12 is SET.
        // 20: on the line. 24: 10 + 1, and 20 is SET. 28: on the line from 11 to 10.
        int[] at = {0, 4, 8, 12, 16, 20, 24, 28};
        int[] due = {10, 11, 11, 11, 10, 10, 11, 11};
        for (int k = 0; k < at.length; k++) {
            CHECK.due("curve(0, " + at[k] + ")", x.curve(0, at[k]), due[k]);
        }
    }

    private static void clippedNumbers() {
        int[] widths = {5, 4, 4, 3};
        int[] greatest = {31, 15, 11, 7};
        for (int g = 0; g < 4; g++) {
            LacedSound x = curveOf(Packets.bareCurve(g, 0));
            Talk.tell(x, shortSound().put(1, 1).put(-1, widths[g]).put(1, widths[g]));
            CHECK.due("the greatest height with G " + g, x.curve(0, 0), greatest[g] * (g + 1));
            CHECK.due("the height of point 1", x.curve(0, 4), g + 1);
            CHECK.due("block()", x.block(), 8);
        }
    }

    private static void outCurves() {
        LacedSound x = with(Packets.format(2, 0, 0), Packets.evenBook(1, 3), noValues(onePart(0, 0, 2)));
        CHECK.due("SOUND", Talk.tell(x, new Bits().put(0, 2).put(1, 1).put(31, 5)), 2);
        CHECK.due("block() with point 1 missing", x.block(), 32);
        curveIs(x, 0, 0, 0, 0, 0);
        // 16 bits: channel 0 has its three numbers in 2 + 1 + 10 + 3 bits; the bit of channel 1 is OUT.
        Talk.tell(x, shortSound().put(1, 1).put(8, 5).put(8, 5).word("000"));
        CHECK.due("block() with channel 1 missing", x.block(), 8 + 32);
        curveIs(x, 0, 8, 8, 8, 8);
        Talk.tell(x, shortSound().put(0, 1).put(1, 1).put(8, 5).put(8, 5).put(0, 2));
        CHECK.due("block() with an entry missing", x.block(), 32);
        curveIs(x, 1, 0, 0, 0, 0);
        Talk.tell(x, shortSound().put(0, 1).put(1, 1).put(8, 5).put(8, 5).word("000"));
        CHECK.due("block() with all there", x.block(), 16);
    }

    /** Book 0 tells the kinds of two parts; book 1 has pairs; book 2 single values. */
    private static LacedSound valuesWith(int channels, Bits setup) {
        return with(Packets.format(channels, 1, 1), Packets.evenBook(2, 2),
            Packets.vectors(Packets.even(2, 2), 2, -3, 2, 0, 2, 0, 1, 1, 3, 2, 0, 3, 2),
            Packets.vectors(Packets.even(1, 1), 1, 1, 3, 0, 2, 0, 3), setup);
    }

    private static Bits values(int mode, int begin, int end, int partSize, int kinds) {
        return Packets.values(Packets.bareCurve(0, 0), mode, begin, end, partSize, kinds, 0);
    }

    private static void kindsAndPasses() {
        // Kind 0 has books 1 and 2 in passes 0 and 1; kind 1 has book 2 in pass 1.
        Bits setup = values(0, 1, 8, 2, 2).put(3, 2).put(2, 2).put(1, 2).put(2, 2).put(2, 2).put(0, 1);
        LacedSound x = valuesWith(1, setup);
        Bits sound = flat(shortSound(), 1);
        // Part 0 has kind 0, part 1 kind 1; part 2 kind 1 (what is beyond it counts for nothing).
        sound.word("01").word("10").word("10");
        sound.word("1").word("0").word("0").word("0").word("1").word("1");
        CHECK.due("SOUND", Talk.tell(x, sound), 2);
        valuesAre("kinds and passes", x, 0, 0, 1 + 10, -3 + 1, 1, 1, 10, 10, 0);
        CHECK.due("block()", x.block(), 8);
    }

    private static void modes() {
        int[][] due = {{-3, 3, -1, 1, 1, -1, -3, 3}, {-3, -1, 3, 1, 1, -3, -1, 3}};
        for (int mode = 0; mode < 2; mode++) {
            LacedSound x = valuesWith(1, values(mode, 0, 8, 4, 1).put(1, 2).put(1, 2).put(0, 1));
            Talk.tell(x, flat(shortSound(), 1).word("00").word("00").word("11").word("10").word("01"));
            valuesAre("MODE " + mode, x, 0, due[mode]);
        }
    }

    /** Kinds of row 0 and 1, then part 0 of row 0 and 1, then part 1 of both. */
    private static void rowsInOrder() {
        LacedSound x = valuesWith(2, values(1, 0, 6, 2, 2).put(1, 2).put(1, 2).put(1, 2).put(2, 2).put(0, 1));
        Bits sound = flat(flat(shortSound(), 1), 1);
        sound.word("01").word("10");
        sound.word("10").word("1").word("0");
        sound.word("0").word("0").word("11");
        sound.word("00").word("11");
        sound.word("01").word("1").word("1");
        Talk.tell(x, sound);
        valuesAre("rows in order", x, 0, 1, -3, 1, 1, -1, 3, 0, 0);
        valuesAre("rows in order", x, 1, 10, 1, 3, 1, 10, 10, 0, 0);
        Bits second = flat(shortSound().put(0, 1), 1);
        second.word("00").word("11").word("10").word("00").word("00");
        Talk.tell(x, second);
        valuesAre("a channel that is not ON", x, 0, 0, 0, 0, 0, 0, 0, 0, 0);
        valuesAre("the other channel", x, 1, 3, 1, 1, -3, -3, -1, 0, 0);
    }

    private static void mixedChannels() {
        LacedSound x = valuesWith(2, values(2, 2, 63, 4, 1).put(1, 2).put(1, 2).put(0, 1));
        Bits sound = flat(shortSound().put(0, 1), 1);
        // 14 cells: three parts, two of them in the first group.
        sound.word("00").word("00").word("01").word("10").word("11").word("00").word("11").word("01");
        Talk.tell(x, sound);
        CHECK.due("block()", x.block(), 16);
        valuesAre("MODE 2", x, 0, 0, -3, -1, 1, 3, 3, -1, 0);
        valuesAre("MODE 2", x, 1, 0, -1, 3, -3, 1, 1, 3, 0);
        // Both passes: what is in a cell stays and grows.
        LacedSound y = valuesWith(2, values(2, 0, 2, 2, 1).put(3, 2).put(1, 2).put(2, 2).put(0, 1));
        Talk.tell(y, flat(shortSound(), 1).put(0, 1).word("00").word("11").word("1").word("0"));
        valuesAre("MODE 2 in two passes", y, 0, 3 + 10, 0);
        valuesAre("MODE 2 in two passes", y, 1, 1 + 1, 0);
        Talk.tell(x, shortSound().put(0, 2).put(-1, 20));
        valuesAre("MODE 2 with no channel ON", x, 0, 0, 0, 0, 0, 0, 0, 0, 0);
        CHECK.due("block()", x.block(), 0);
    }

    private static void clippedRange() {
        LacedSound x = valuesWith(1, values(1, 6, 40, 1, 1).put(1, 2).put(2, 2).put(0, 1));
        Talk.tell(x, flat(shortSound(), 1).word("00").word("1").word("1"));
        valuesAre("END beyond the row", x, 0, 0, 0, 0, 0, 0, 0, 10, 10);
        CHECK.due("block()", x.block(), 8);
        LacedSound y = valuesWith(1, values(1, 20, 40, 1, 1).put(1, 2).put(2, 2).put(0, 1));
        Talk.tell(y, flat(shortSound(), 1));
        valuesAre("BEGIN beyond the row", y, 0, 0, 0, 0, 0, 0, 0, 0, 0);
        CHECK.due("block() without a read", y.block(), 8);
    }

    /** KIND 1 of dimension 2 with 5 entries: R is 2, component i has the number (e / 2^i) mod 2. */
    private static void vectorsOfKindOne() {
        for (int sum = 0; sum < 2; sum++) {
            Bits book = Packets.vectors(Packets.lengths(2, 2, 2, 2, 3, 3), 1, -8, 7, sum, 4, 1, 15);
            LacedSound x = with(Packets.format(1, 2, 2), Packets.evenBook(1, 1), book,
                Packets.values(Packets.bareCurve(0, 0), 1, 0, 10, 2, 1, 0).put(1, 2).put(1, 2).put(0, 1));
            Bits sound = flat(shortSound(), 1);
            String[] words = {"00", "01", "10", "110", "111"};
            for (String word : words) {
                sound.word("0").word(word);
            }
            Talk.tell(x, sound);
            int b = 97;
            int[][] due = {{-1, -1, b, -1, -1, b, b, b, -1, -1}, {-1, -2, b, b - 1, -1, b - 1, b, 2 * b, -1, -2}};
            valuesAre("KIND 1 with SUM " + sum, x, 0, due[sum]);
            CHECK.due("block()", x.block(), 8);
        }
    }

    /** A book with one used entry takes one bit, be it 0 or 1. */
    private static void loneEntry() {
        Bits lone = Packets.book(1, 3, 0).put(1, 1).put(0, 1).put(1, 1).put(0, 3).put(0, 1);
        LacedSound x = with(Packets.format(1, 0, 0), Packets.evenBook(1, 1), Packets.vectors(lone, 2, 0, 1, 0, 4, 3, 9, 12),
            Packets.values(Packets.bareCurve(0, 0), 1, 0, 3, 3, 1, 0).put(1, 2).put(1, 2).put(0, 1));
        Talk.tell(x, flat(shortSound(), 1).word("0").word("0").word("1"));
        valuesAre("a lone entry", x, 0, 9, 9, 0, 0);
        CHECK.due("block() with the third bit OUT", x.block(), 8 + 32);
        Talk.tell(x, flat(shortSound(), 1).word("0").word("0").word("1").word("1"));
        valuesAre("a lone entry", x, 0, 9, 9, 9, 0);
        CHECK.due("block() with all bits", x.block(), 8);
    }

    /** Rows of eight parts of one cell, with values -2, 0, 2 and 4. */
    private static LacedSound joinedWith(int mode) {
        return with(Packets.format(2, 1, 1), Packets.evenBook(4, 1),
            Packets.vectors(Packets.even(1, 2), 2, -2, 2, 0, 2, 0, 1, 2, 3),
            Packets.values(Packets.bareCurve(0, 0), mode, 0, 63, 1, 1, 0).put(1, 2).put(1, 2).put(1, 1));
    }

    private static void joinedChannels() {
        int[] m = {4, 4, -2, -2, 0, 0, 4, 2};
        int[] a = {2, -2, 2, -2, 2, -2, 0, 4};
        int[] first = {4, 2, -2, 0, 0, 2, 4, 2};
        int[] second = {2, 4, 0, -2, 2, 0, 4, -2};
        LacedSound x = joinedWith(1);
        // Only one channel is used, but both are ON.
        Bits sound = flat(shortSound(), 1).put(0, 1);
        for (int k = 0; k < 8; k++) {
            if (k % 4 == 0) {
                sound.word("00");
            }
            sound.word(digits(m[k] / 2 + 1, 2)).word(digits(a[k] / 2 + 1, 2));
        }
        Talk.tell(x, sound);
        CHECK.due("block()", x.block(), 8);
        valuesAre("JOINED", x, 0, first);
        valuesAre("JOINED", x, 1, second);
        Talk.tell(x, shortSound().put(0, 2));
        valuesAre("JOINED with none ON", x, 0, 0, 0, 0, 0, 0, 0, 0, 0);
    }

    /** JOINED comes also behind an OUT read, and for MODE 2. */
    private static void joinedRows() {
        LacedSound x = joinedWith(1);
        // 2 + 11 + 1 + 2 bits, and two entries for place 0, two for place 1.
        Talk.tell(x, flat(shortSound(), 1).put(0, 1).word("00").word("11").word("00").word("11").word("00"));
        CHECK.due("block()", x.block(), 8 + 32);
        valuesAre("JOINED and OUT", x, 0, 2, 2, 0);
        valuesAre("JOINED and OUT", x, 1, 4, 4, 0);
        LacedSound y = joinedWith(2);
        Talk.tell(y, flat(shortSound(), 1).put(0, 1).word("0").word("11").word("00").word("11").word("00").put(0, 1));
        valuesAre("JOINED in MODE 2", y, 0, 2, 2);
        valuesAre("JOINED in MODE 2", y, 1, 4, 4);
    }

    private static void outValues() {
        LacedSound x = valuesWith(1, values(1, 0, 8, 4, 1).put(3, 2).put(1, 2).put(2, 2).put(0, 1));
        // 13 + 2 + 2 + 2 + 2 bits, and three left in which no second entry of the group's last part is.
        Bits sound = flat(shortSound(), 1).word("00").word("11").word("11").word("11").word("11").word("0");
        CHECK.due("bits", sound.count(), 24);
        Talk.tell(x, sound);
        // The ninth bit behind them is the first of pass 1; the next one is OUT.
        valuesAre("OUT in pass 1", x, 0, 4, 1, 3, 1, 3, 1, 3, 1);
        CHECK.due("block()", x.block(), 8 + 32);
        Talk.tell(x, flat(shortSound(), 1).word("00").put(0, 1));
        valuesAre("OUT in the first part", x, 0, 0, 0, 0, 0, 0, 0, 0, 0);
        CHECK.due("block()", x.block(), 8 + 32);
        // OUT in the curve of channel 1: nothing is left for the values of channel 0.
        LacedSound y = valuesWith(2, values(1, 0, 8, 4, 1).put(1, 2).put(1, 2).put(0, 1));
        Talk.tell(y, flat(shortSound(), 1).put(1, 1).put(0, 2));
        CHECK.due("block()", y.block(), 8 + 32);
        valuesAre("OUT in a curve", y, 0, 0, 0, 0, 0);
    }

    private static void sampleCounts() {
        LacedSound x = with(Packets.format(1, 0, 3), Packets.evenBook(1, 1), noValues(Packets.bareCurve(0, 0)));
        int[] isLong = {0, 0, 1, 1, 0};
        int[] due = {0, 4, 22, 54, 72};
        for (int k = 0; k < isLong.length; k++) {
            Talk.tell(x, isLong[k] == 1 ? longSound(0).put(0, 4) : shortSound().put(0, 6));
            CHECK.due("samples() with block " + k, x.samples(), due[k]);
        }
        Talk.tell(x, Packets.format(1, 1, 1));
        CHECK.due("samples() with a FORMAT", x.samples(), 0);
        Talk.tell(x, noValues(Packets.bareCurve(0, 0)));
        Talk.tell(x, shortSound().put(0, 6));
        CHECK.due("samples() with the first block behind it", x.samples(), 0);
        Talk.tell(x, shortSound().put(0, 6));
        CHECK.due("samples() with the second", x.samples(), 8);
    }

    private static int samplesAt(int time, boolean last, int blocks) {
        LacedSound x = with(Packets.format(1, 1, 1), Packets.evenBook(1, 1), noValues(Packets.bareCurve(0, 0)));
        for (int k = 1; k < blocks; k++) {
            Talk.tell(x, shortSound().put(0, 6));
        }
        Talk.bring(x, 0, time, last, shortSound().put(0, 6).bytes());
        x.take();
        return x.samples();
    }

    private static void closing() {
        CHECK.due("CLOSING below the samples", samplesAt(13, true, 3), 13);
        CHECK.due("CLOSING at 0", samplesAt(0, true, 3), 0);
        CHECK.due("CLOSING at the samples", samplesAt(16, true, 3), 16);
        CHECK.due("CLOSING above them", samplesAt(17, true, 3), 16);
        CHECK.due("not CLOSING", samplesAt(13, false, 3), 16);
        CHECK.due("CLOSING with the first block", samplesAt(0, true, 1), 0);
        LacedSound x = with(Packets.format(1, 1, 1), Packets.evenBook(1, 1), noValues(Packets.bareCurve(0, 0)));
        Talk.tell(x, shortSound().put(0, 6));
        // Two packets in the LAST page: only the second one closes.
        Talk.addAll(x, shortSound().put(0, 6).bytes());
        x.send(0, 1);
        Talk.bring(x, 0, 5, true, shortSound().put(0, 6).bytes());
        x.take();
        CHECK.due("samples() with the first packet", x.samples(), 8);
        x.next();
        CHECK.due("END ahead of the take", x.next(), 4);
        x.take();
        CHECK.due("samples() with the second", x.samples(), 5);
        Talk.bring(x, 1, 5, false, shortSound().put(0, 6).bytes());
        x.take();
        CHECK.due("samples() goes on from there", x.samples(), 13);
        // A LAST page without a time.
        Pages.put(x, Pages.of(Pages.FIRST | Pages.LAST, 9, 0, 65535, java.util.List.of(1), java.util.List.of(0)));
        x.next();
        x.take();
        CHECK.due("CLOSING without a time", x.samples(), 21);
    }

    private static void refusedSound() {
        LacedSound x = with(Packets.format(1, 1, 1));
        CHECK.due("SOUND without setup", Talk.tell(x, shortSound().put(0, 6)), 0);
        CHECK.due("block()", x.block(), -1);
        CHECK.due("samples()", x.samples(), 0);
        LacedSound y = with(Packets.format(1, 1, 1), Packets.evenBook(1, 1), noValues(Packets.bareCurve(0, 0)));
        CHECK.due("SOUND of one byte", Talk.tell(y, longSound(3).put(1, 1)), 2);
        CHECK.due("block()", y.block(), 1 + 6 + 32);
    }
}
