import java.util.List;

/** The boundaries of promise 21, sentence by sentence. */
public final class SampleEdgesTest {
    private static final Check CHECK = new Check("SampleEdgesTest");
    private static final int FIRST = Pages.FIRST;
    private static final int LAST = Pages.LAST;
    private static final int CONTINUED = Pages.CONTINUED;

    public static void main(String[] args) {
        beforeTheFormat();
        everyPairOfBlocks();
        firstBlock();
        setupBetween();
        refusedBetween();
        outBlocks();
        closingTimes();
        closingAtZero();
        closingFirstBlock();
        notClosing();
        withoutATime();
        lastBelowFifteen();
        overPages();
        takenLater();
        goesOnFromThere();
        CHECK.end();
    }

    /** A FORMAT with blocks of 16 and 64, and a setup that reads nothing but the channel's bit. */
    private static LacedSound ready(int a, int b) {
        LacedSound x = new LacedSound();
        Talk.tell(x, Packets.evenBook(1, 1));
        Talk.tell(x, Packets.format(1, a, b));
        CHECK.due("SETUP", Talk.tell(x, Packets.plainSetup()), 5);
        return x;
    }

    private static Bits block(boolean isLong) {
        return isLong ? Packets.longSound(0).put(0, 4) : Packets.shortSound().put(0, 6);
    }

    private static int tell(LacedSound x, boolean isLong) {
        CHECK.due("SOUND", Talk.tell(x, block(isLong)), 2);
        return x.samples();
    }

    private static void beforeTheFormat() {
        CHECK.sentence("How many samples there are since the FORMAT: see SAMPLES; 0 before the first one.");
        LacedSound x = new LacedSound();
        CHECK.due("samples() of a new object", x.samples(), 0);
        Talk.tell(x, block(false));
        CHECK.due("samples() with a refused SOUND", x.samples(), 0);
        LacedSound y = ready(1, 3);
        CHECK.due("samples() with a setup", y.samples(), 0);
        tell(y, false);
        CHECK.due("samples() of two blocks", tell(y, false), 8);
        Talk.tell(y, Packets.format(1, 1, 3));
        CHECK.due("samples() with the next FORMAT", y.samples(), 0);
        Talk.tell(y, Packets.plainSetup());
        CHECK.due("samples() of its first block", tell(y, true), 0);
        CHECK.due("samples() of its second block", tell(y, true), 32);
    }

    private static void everyPairOfBlocks() {
        CHECK.sentence("samples() grows by a quarter of that one's size plus a quarter of n.");
        for (int a = 0; a < 4; a++) {
            for (int b = a; b < 4; b++) {
                int[] quarter = {2 << a, 2 << b};
                LacedSound x = ready(a, b);
                int[] shapes = {0, 0, 1, 1, 0, 1, 0, 0};
                int due = 0;
                for (int k = 0; k < shapes.length; k++) {
                    due += k == 0 ? 0 : quarter[shapes[k - 1]] + quarter[shapes[k]];
                    CHECK.due("samples() of " + a + " and " + b + " with block " + k, tell(x, shapes[k] == 1), due);
                }
            }
        }
    }

    private static void firstBlock() {
        CHECK.sentence("if there was a block since the FORMAT, ahead of this one");
        for (int first = 0; first < 2; first++) {
            LacedSound x = ready(1, 3);
            CHECK.due("samples() of the first block", tell(x, first == 1), 0);
            CHECK.due("samples() of the second block", tell(x, false), first == 1 ? 20 : 8);
        }
    }

    private static void setupBetween() {
        CHECK.sentence("(the block, its curves and values, and samples() stay)");
        LacedSound x = ready(1, 3);
        tell(x, true);
        CHECK.due("samples()", tell(x, true), 32);
        Talk.tell(x, Packets.plainSetup());
        CHECK.due("samples() with a SETUP", x.samples(), 32);
        CHECK.due("samples() with the block behind it", tell(x, false), 32 + 16 + 4);
    }

    private static void refusedBetween() {
        CHECK.sentence("A refused packet changes nothing.");
        LacedSound x = ready(1, 3);
        tell(x, true);
        CHECK.due("a refused FORMAT", Talk.tell(x, Packets.format(1, 3, 1)), 0);
        CHECK.due("samples() of the second block", tell(x, true), 32);
        CHECK.due("a refused FORMAT", Talk.tell(x, Packets.format(1, 2, 1)), 0);
        CHECK.due("an unknown packet", Talk.tell(x, new Bits().put(7, 8)), 0);
        CHECK.due("samples() stays", x.samples(), 32);
        CHECK.due("samples() of the third block", tell(x, true), 64);
    }

    private static void outBlocks() {
        CHECK.sentence("Otherwise it is accepted, and this is the block from now on.");
        LacedSound x = ready(1, 3);
        CHECK.due("a block that is OUT", Talk.tell(x, Packets.shortSound().put(1, 1).put(0, 5)), 2);
        CHECK.due("block()", x.block(), 32);
        CHECK.due("samples() counts it", tell(x, false), 8);
    }

    /** Two blocks of 16 are there: 8 samples. The third comes alone in a page. */
    private static int third(int flags, int time) {
        LacedSound x = ready(1, 1);
        tell(x, false);
        tell(x, false);
        Pages.put(x, Pages.of(flags, 9, 0, time, List.of(1), block(false).bytes()));
        CHECK.due("next()", x.next(), 3);
        CHECK.due("time()", x.time(), time);
        CHECK.due("take()", x.take(), 2);
        return x.samples();
    }

    private static void closingTimes() {
        CHECK.sentence("Then, if the packet is CLOSING, its time is not 65535, and less than samples(), samples() becomes that time");
        int[][] cases = {{1, 1}, {7, 7}, {8, 8}, {9, 9}, {15, 15}, {16, 16}, {17, 16}, {256, 16}, {65534, 16}};
        for (int[] c : cases) {
            CHECK.due("CLOSING at " + c[0], third(FIRST | LAST, c[0]), c[1]);
        }
    }

    private static void closingAtZero() {
        CHECK.sentence("and less than samples(), samples() becomes that time");
        CHECK.due("CLOSING at 0", third(LAST, 0), 0);
    }

    private static void closingFirstBlock() {
        CHECK.sentence("and less than samples()");
        for (int time : new int[] {0, 1, 16}) {
            LacedSound x = ready(1, 1);
            Pages.put(x, Pages.of(LAST, 9, 0, time, List.of(1), block(false).bytes()));
            x.next();
            x.take();
            CHECK.due("CLOSING with the first block at " + time, x.samples(), 0);
            CHECK.due("END", x.next(), 4);
            CHECK.due("samples() of the second block", tell(x, false), 8);
        }
    }

    private static void notClosing() {
        CHECK.sentence("else its time is 65535 and it is not CLOSING.");
        for (int time : new int[] {0, 9, 15, 16}) {
            CHECK.due("a page that is not LAST, at " + time, third(FIRST, time), 16);
        }
    }

    private static void withoutATime() {
        CHECK.sentence("its time is not 65535");
        CHECK.due("CLOSING without a time", third(FIRST | LAST, 65535), 16);
    }

    private static void lastBelowFifteen() {
        CHECK.sentence("it is CLOSING when the page is LAST, if the segment is the last one below 15 of the page");
        // Two packets and the beginning of a third: the second one closes.
        LacedSound x = ready(1, 1);
        tell(x, false);
        tell(x, false);
        List<Integer> bytes = new java.util.ArrayList<>(List.of(0, 0));
        bytes.addAll(java.util.Collections.nCopies(15, 0));
        Pages.put(x, Pages.of(FIRST | LAST, 9, 0, 10, List.of(1, 1, 15), bytes));
        CHECK.due("next()", x.next(), 3);
        CHECK.due("take() of the first", x.take(), 2);
        CHECK.due("samples() with the first", x.samples(), 16);
        CHECK.due("next()", x.next(), 3);
        CHECK.due("take() of the second", x.take(), 2);
        CHECK.due("samples() with the second", x.samples(), 10);
    }

    private static void overPages() {
        CHECK.sentence("it is CLOSING when the page is LAST, if the segment is the last one below 15 of the page");
        LacedSound x = ready(1, 1);
        tell(x, false);
        tell(x, false);
        Pages.put(x, Pages.of(FIRST, 9, 0, 65535, List.of(15), java.util.Collections.nCopies(15, 0)));
        Pages.put(x, Pages.of(CONTINUED | LAST, 9, 1, 11, List.of(0), List.of()));
        CHECK.due("next()", x.next(), 3);
        CHECK.due("take()", x.take(), 2);
        CHECK.due("samples() with a packet that ends in the LAST page", x.samples(), 11);
    }

    private static void takenLater() {
        CHECK.sentence("Then, if the packet is CLOSING");
        LacedSound x = ready(1, 1);
        tell(x, false);
        tell(x, false);
        Pages.put(x, Pages.of(FIRST | LAST, 9, 0, 12, List.of(1), List.of(0)));
        x.raw(0, 1);
        for (int kind : new int[] {3, 4, 1, 0}) {
            CHECK.due("next()", x.next(), kind);
        }
        CHECK.due("take() behind END and SKIPPED", x.take(), 2);
        CHECK.due("samples()", x.samples(), 12);
        // The packet behind it is not CLOSING, though the latest one was.
        CHECK.due("samples() of the next block", tell(x, false), 20);
    }

    private static void goesOnFromThere() {
        CHECK.sentence("samples() becomes that time (and goes on from there).");
        LacedSound x = ready(1, 1);
        tell(x, false);
        tell(x, false);
        for (int k = 0; k < 3; k++) {
            Pages.put(x, Pages.of(FIRST | LAST, 9, 0, 3, List.of(1), List.of(0)));
            CHECK.due("next()", x.next(), 3);
            x.take();
            CHECK.due("samples() with a CLOSING packet", x.samples(), 3);
            CHECK.due("END", x.next(), 4);
        }
        CHECK.due("samples() of the next block", tell(x, false), 11);
        CHECK.due("samples() of the one behind it", tell(x, false), 19);
    }
}
