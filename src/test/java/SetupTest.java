/** Promise 16: SETUP packets. */
public final class SetupTest {
    private static final Check CHECK = new Check("SetupTest");

    public static void main(String[] args) {
        needs();
        books();
        classes();
        points();
        values();
        joined();
        out();
        keeps();
        CHECK.end();
    }

    /** Two channels; book 0 has 8 entries and no vectors, book 1 vectors of dimension 2. */
    private static LacedSound ready(int channels) {
        LacedSound x = new LacedSound();
        Talk.tell(x, Packets.format(channels, 0, 1));
        Talk.tell(x, Packets.evenBook(1, 3));
        Talk.tell(x, Packets.vectors(Packets.even(2, 1), 1, 0, 1, 0, 1, 1));
        return x;
    }

    private static void setup(String what, Bits packet, boolean good) {
        CHECK.due(what, Talk.tell(ready(2), packet), good ? 5 : 0);
    }

    private static Bits valuesBehind(Bits curve) {
        return Packets.values(curve, 1, 0, 0, 1, 1, 0).put(0, 2).put(0, 1);
    }

    private static void needs() {
        LacedSound x = new LacedSound();
        Talk.tell(x, Packets.evenBook(1, 3));
        CHECK.due("no FORMAT", Talk.tell(x, Packets.plainSetup()), 0);
        Talk.tell(x, Packets.format(1, 2, 1));
        CHECK.due("a refused FORMAT is none", Talk.tell(x, Packets.plainSetup()), 0);
        Talk.tell(x, Packets.format(1, 1, 1));
        CHECK.due("a FORMAT", Talk.tell(x, Packets.plainSetup()), 5);
        setup("bits behind it", Packets.plainSetup().put(-1, 30), true);
        LacedSound y = new LacedSound();
        Talk.tell(y, Packets.format(1, 1, 1));
        CHECK.due("no book for the kinds", Talk.tell(y, Packets.plainSetup()), 0);
    }

    /** A curve with one part of class 0, which is SPLIT. */
    private static Bits split(int master, int first, int second) {
        Bits bits = new Bits().put(5, 8).put(0, 2).put(1, 2).put(0, 1);
        bits.put(0, 2).put(1, 1).put(master, 2).put(first, 3).put(second, 3);
        return bits.put(0, 2).put(1, 2);
    }

    private static void books() {
        setup("SPLIT with books", valuesBehind(split(1, 1, 2)), true);
        setup("SPLIT without subbooks", valuesBehind(split(0, 0, 0)), true);
        setup("no such master", valuesBehind(split(2, 1, 1)), false);
        setup("no such subbook 0", valuesBehind(split(1, 3, 1)), false);
        setup("no such subbook 1", valuesBehind(split(1, 1, 3)), false);
        setup("subbook number 7", valuesBehind(split(1, 1, 7)), false);
        Bits kinds = Packets.values(Packets.bareCurve(0, 0), 1, 0, 0, 1, 1, 2).put(0, 2).put(0, 1);
        setup("no such book for the kinds", kinds, false);
    }

    /** Class 0 is told also if only class 1 has a part. */
    private static void classes() {
        Bits one = new Bits().put(5, 8).put(3, 2).put(1, 2).put(1, 1);
        one.put(0, 2).put(0, 1).put(1, 3);
        one.put(1, 2).put(0, 1).put(2, 3);
        one.put(0, 2).put(1, 2).put(2, 2);
        setup("a part of class 1 alone", valuesBehind(one), true);
        Bits wrong = new Bits().put(5, 8).put(3, 2).put(1, 2).put(1, 1);
        wrong.put(0, 2).put(0, 1).put(5, 3);
        wrong.put(1, 2).put(0, 1).put(2, 3);
        wrong.put(0, 2).put(1, 2).put(2, 2);
        setup("no such book in a class without a part", valuesBehind(wrong), false);
    }

    /** Three parts of class 0 with four points each, in a curve of 32 places. */
    private static Bits twelve(int last) {
        Bits bits = new Bits().put(5, 8).put(0, 2).put(3, 2).put(0, 3).put(3, 2).put(0, 1).put(0, 3).put(3, 2);
        for (int k = 1; k < 12; k++) {
            bits.put(k, 5);
        }
        return bits.put(last, 5);
    }

    private static void points() {
        setup("twelve points", valuesBehind(twelve(31)), true);
        setup("a point at the place of another", valuesBehind(twelve(7)), false);
        setup("a point at the place of point 0", valuesBehind(twelve(0)), false);
        setup("no parts", valuesBehind(Packets.bareCurve(2, 3)), true);
    }

    private static Bits passes(int partSize, int kinds, int has, int... books) {
        Bits bits = Packets.values(Packets.bareCurve(0, 0), 0, 0, 0, partSize, kinds, 1).put(has, 2 * kinds);
        for (int book : books) {
            bits.put(book, 2);
        }
        return bits.put(0, 1);
    }

    private static void values() {
        for (int mode = 0; mode < 4; mode++) {
            Bits bits = Packets.values(Packets.bareCurve(0, 0), mode, 0, 0, 1, 1, 0).put(0, 2).put(0, 1);
            setup("MODE " + mode, bits, mode < 3);
        }
        int[][] ends = {{0, 0}, {31, 31}, {31, 30}, {5, 63}, {1, 0}};
        for (int[] pair : ends) {
            Bits bits = Packets.values(Packets.bareCurve(0, 0), 0, pair[0], pair[1], 1, 1, 0).put(0, 2).put(0, 1);
            setup("BEGIN " + pair[0] + " and END " + pair[1], bits, pair[1] >= pair[0]);
        }
        for (int partSize = 1; partSize <= 8; partSize++) {
            setup("dimension 2 in parts of " + partSize, passes(partSize, 1, 1, 1), partSize % 2 == 0);
        }
        setup("a book without vectors", passes(2, 1, 1, 0), false);
        setup("no such book", passes(2, 1, 1, 2), false);
        setup("all four books", passes(2, 2, 15, 1, 1, 1, 1), true);
        setup("the last of four without vectors", passes(2, 2, 15, 1, 1, 1, 0), false);
        setup("pass 1 of kind 1 alone", passes(2, 2, 8, 1), true);
        setup("pass 1 of kind 1 alone, without vectors", passes(2, 2, 8, 0), false);
    }

    private static void joined() {
        Bits bits = Packets.values(Packets.bareCurve(0, 0), 0, 0, 0, 1, 1, 0).put(0, 2).put(1, 1);
        CHECK.due("JOINED with two channels", Talk.tell(ready(2), bits), 5);
        CHECK.due("JOINED with one channel", Talk.tell(ready(1), bits), 0);
    }

    private static void out() {
        Bits bits = passes(2, 2, 15, 1, 1, 1, 1);
        // 14 + 19 + 4 + 8 + 1: six bytes.
        CHECK.due("bits of a SETUP", bits.count(), 46);
        for (int bytes = 1; bytes <= 6; bytes++) {
            LacedSound x = ready(2);
            Talk.bring(x, 0, 0, false, bits.bytes().subList(0, bytes));
            CHECK.due("a SETUP of " + bytes + " bytes", x.take(), bytes == 6 ? 5 : 0);
        }
    }

    /** A SETUP keeps the block; a refused one keeps the setup; a FORMAT ends it. */
    private static void keeps() {
        LacedSound x = ready(1);
        Talk.tell(x, Packets.plainSetup());
        CHECK.due("SOUND", Talk.tell(x, new Bits().put(0, 2).put(1, 1).put(9, 5).put(9, 5)), 2);
        CHECK.due("curve(0, 3)", x.curve(0, 3), 9);
        Talk.tell(x, new Bits().put(0, 2).put(1, 1).put(9, 5).put(9, 5));
        CHECK.due("samples()", x.samples(), 4);
        CHECK.due("another SETUP", Talk.tell(x, Packets.values(Packets.bareCurve(1, 0), 1, 0, 0, 1, 1, 0).put(0, 3)), 5);
        CHECK.due("block() stays", x.block(), 8);
        CHECK.due("curve(0, 3) stays", x.curve(0, 3), 9);
        CHECK.due("samples() stays", x.samples(), 4);
        CHECK.due("a refused SETUP", Talk.tell(x, Packets.values(Packets.bareCurve(2, 0), 3, 0, 0, 1, 1, 0).put(0, 3)), 0);
        Talk.tell(x, new Bits().put(0, 2).put(1, 1).put(9, 4).put(9, 4));
        CHECK.due("curve(0, 3) with the setup before", x.curve(0, 3), 18);
        CHECK.due("samples() goes on", x.samples(), 8);
        CHECK.due("a refused FORMAT", Talk.tell(x, Packets.format(2, 3, 0)), 0);
        CHECK.due("block() with it", x.block(), 8);
        CHECK.due("FORMAT", Talk.tell(x, Packets.format(1, 0, 1)), 1);
        CHECK.due("block() is none", x.block(), -1);
        CHECK.due("curve(0, 3) is none", x.curve(0, 3), -1);
        CHECK.due("value(0, 3) is none", x.value(0, 3), 0);
        CHECK.due("samples() is 0", x.samples(), 0);
        CHECK.due("SOUND without setup", Talk.tell(x, new Bits().put(0, 8)), 0);
    }
}
