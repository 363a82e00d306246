import java.util.ArrayList;
import java.util.List;
import java.util.function.BiConsumer;
import java.util.function.Consumer;

/** The boundaries of a SETUP packet, sentence by sentence. */
public final class SetupEdgesTest {
    private static final Check CHECK = new Check("SetupEdgesTest");

    public static void main(String[] args) {
        withoutFormat();
        numbersOfBooks();
        numbersOfSubbooks();
        noBookAtAll();
        booksThatAreNotThere();
        parts();
        classWithoutAPart();
        placesOfPoints();
        pointsAtOnePlace();
        modes();
        endBelowBegin();
        partSizes();
        booksWithoutVectors();
        joined();
        outAtEnd();
        blockStays();
        fromNowOn();
        refusedKeepsTheSetup();
        CHECK.end();
    }

    private static int take(LacedSound x, Bits packet) {
        return Talk.bring(x, 3, 0, false, packet.bytes()) ? x.take() : -2;
    }

    private static void refused(String what, Setup setup) {
        Twins.refusedPacket(CHECK, what, Packets::live, setup.bits().bytes());
    }

    /** A FORMAT, and books of dimension 1 that all have vectors. */
    private static LacedSound withBooks(int channels, int count) {
        LacedSound x = new LacedSound();
        Talk.tell(x, Packets.format(channels, 0, 1));
        for (int k = 0; k < count; k++) {
            Talk.tell(x, Packets.vectors(Packets.even(1, 1), 1, 0, 1, 0, 1, 0, 1));
        }
        return x;
    }

    private static void withoutFormat() {
        CHECK.sentence("SETUP: refused without a FORMAT");
        Consumer<LacedSound> past = x -> Talk.tell(x, Packets.evenBook(1, 1));
        Twins.refusedPacket(CHECK, "no FORMAT", past, new Setup().bits().bytes());
        Twins.refusedPacket(CHECK, "a refused FORMAT", x -> {
            past.accept(x);
            Talk.tell(x, Packets.format(1, 1, 0));
        }, new Setup().bits().bytes());
        LacedSound x = new LacedSound();
        past.accept(x);
        Talk.tell(x, Packets.format(1, 0, 0));
        CHECK.due("a FORMAT", take(x, new Setup().bits()), 5);
        CHECK.due("a second SETUP", take(x, new Setup().bits()), 5);
        LacedSound y = new LacedSound();
        Talk.tell(y, Packets.format(1, 0, 0));
        past.accept(y);
        CHECK.due("a FORMAT ahead of the book", take(y, new Setup().bits()), 5);
    }

    /** A place of the packet where a book's number stands. */
    private record Spot(String name, BiConsumer<Setup, Integer> put) { }

    private static void passBook(Setup s, int spot, int number) {
        s.kinds = 2;
        s.has = 15;
        s.books = new int[4];
        s.books[spot] = number;
    }

    private static void aPart(Setup s, int kind, int split) {
        s.parts = new int[] {kind};
        s.split[kind] = split;
        s.places = new int[] {9};
    }

    private static List<Spot> spots() {
        List<Spot> spots = new ArrayList<>();
        spots.add(new Spot("the kinds' book", (s, n) -> s.kindsBook = n));
        for (int k = 0; k < 4; k++) {
            int spot = k;
            spots.add(new Spot("the book of kind " + k / 2 + " in pass " + k % 2, (s, n) -> passBook(s, spot, n)));
        }
        for (int k = 0; k < 2; k++) {
            int kind = k;
            spots.add(new Spot("the master of class " + k, (s, n) -> {
                aPart(s, kind, 1);
                s.master[kind] = n;
            }));
        }
        spots.add(new Spot("the master of a class without a part", (s, n) -> {
            aPart(s, 1, 0);
            s.split[0] = 1;
            s.master[0] = n;
        }));
        return spots;
    }

    private static void numbersOfBooks() {
        CHECK.sentence("or if a book number in it is that of no book.");
        for (Spot spot : spots()) {
            for (int count = 1; count <= 4; count++) {
                for (int number = 0; number < 4; number++) {
                    Setup setup = new Setup();
                    spot.put.accept(setup, number);
                    String what = spot.name + " is " + number + " of " + count;
                    CHECK.due(what, take(withBooks(1, count), setup.bits()), number < count ? 5 : 0);
                }
            }
        }
    }

    private static List<Spot> subbooks() {
        List<Spot> spots = new ArrayList<>();
        for (int k = 0; k < 2; k++) {
            int kind = k;
            for (int sub = 0; sub < 3; sub++) {
                int split = Math.min(sub, 1);
                int which = sub / 2;
                spots.add(new Spot("subbook " + which + " of class " + k + (split == 1 ? ", SPLIT" : ""), (s, n) -> {
                    aPart(s, kind, split);
                    s.subbooks[kind][which] = n;
                }));
            }
        }
        spots.add(new Spot("the subbook of a class without a part", (s, n) -> {
            aPart(s, 1, 0);
            s.subbooks[0][0] = n;
        }));
        for (int sub = 0; sub < 2; sub++) {
            int which = sub;
            spots.add(new Spot("subbook " + sub + " of a class without a part, SPLIT", (s, n) -> {
                aPart(s, 1, 0);
                s.split[0] = 1;
                s.subbooks[0][which] = n;
            }));
        }
        return spots;
    }

    private static void numbersOfSubbooks() {
        CHECK.sentence("3 bits, a book's number plus 1, 0 for no book");
        for (Spot spot : subbooks()) {
            for (int count = 1; count <= 4; count++) {
                for (int plusOne = 0; plusOne < 8; plusOne++) {
                    Setup setup = new Setup();
                    spot.put.accept(setup, plusOne);
                    String what = spot.name + " is " + plusOne + " - 1 of " + count;
                    CHECK.due(what, take(withBooks(1, count), setup.bits()), plusOne <= count ? 5 : 0);
                }
            }
        }
    }

    private static void noBookAtAll() {
        CHECK.sentence("or if a book number in it is that of no book.");
        Twins.refusedPacket(CHECK, "a FORMAT alone", x -> Talk.tell(x, Packets.format(2, 0, 1)), new Setup().bits().bytes());
    }

    private static void booksThatAreNotThere() {
        CHECK.sentence("A refused packet changes nothing.");
        for (Spot spot : spots()) {
            Setup setup = new Setup();
            spot.put.accept(setup, 3);
            refused(spot.name + " is 3 of 3", setup);
        }
        for (Spot spot : subbooks()) {
            Setup setup = new Setup();
            spot.put.accept(setup, 4);
            refused(spot.name + " is 4 - 1 of 3", setup);
        }
    }

    private static void parts() {
        CHECK.sentence("2 bits, the number of parts; for each part 1 bit, its class.");
        int[][] lists = {{}, {0}, {1}, {0, 0}, {1, 0}, {0, 1}, {1, 1}, {0, 0, 0}, {0, 1, 0}, {1, 1, 1}};
        for (int[] parts : lists) {
            for (int size = 1; size <= 4; size++) {
                Setup setup = new Setup();
                setup.parts = parts;
                setup.size = new int[] {size, 5 - size};
                int points = 0;
                for (int part : parts) {
                    points += setup.size[part];
                }
                setup.places = new int[points];
                for (int k = 0; k < points; k++) {
                    setup.places[k] = 31 - 2 * k;
                }
                String what = parts.length + " parts, of " + points + " points";
                CHECK.due(what, take(withBooks(2, 1), setup.bits()), 5);
                // Were the bits read otherwise, MODE would stand elsewhere.
                setup.mode = 3;
                CHECK.due(what + ", MODE 3", take(withBooks(2, 1), setup.bits()), 0);
                if (points > 0) {
                    setup.mode = 1;
                    setup.places[points - 1] = 0;
                    CHECK.due(what + ", the last at 0", take(withBooks(2, 1), setup.bits()), 0);
                }
            }
        }
    }

    private static void classWithoutAPart() {
        CHECK.sentence("For each class from 0 to the greatest that a part has, be there a part of it or not (none without parts)");
        Setup setup = new Setup();
        setup.parts = new int[] {1};
        setup.size = new int[] {4, 2};
        setup.places = new int[] {20, 10};
        CHECK.due("class 0 without a part", take(withBooks(2, 1), setup.bits()), 5);
        setup.mode = 3;
        CHECK.due("class 0 without a part, MODE 3", take(withBooks(2, 1), setup.bits()), 0);
        setup.mode = 1;
        setup.subbooks[0][0] = 2;
        CHECK.due("class 0 without a part, with no such book", take(withBooks(2, 1), setup.bits()), 0);
    }

    private static Setup pointsAt(int r, int... places) {
        Setup setup = new Setup();
        setup.parts = new int[(places.length + 3) / 4];
        setup.size[0] = Math.min(places.length, 4);
        setup.r = r;
        setup.places = places;
        return setup;
    }

    private static void placesOfPoints() {
        CHECK.sentence("POINTS 0 and 1 are at 0 and at 2^(r + 2); then for the parts in order as many further points as the size of its class, each at a place of r + 2 bits");
        for (int r = 0; r < 4; r++) {
            for (int place = 1; place < 4 << r; place++) {
                LacedSound x = new LacedSound();
                Talk.tell(x, Packets.format(1, 3, 3));
                Talk.tell(x, Packets.evenBook(1, 1));
                Setup setup = pointsAt(r, place);
                setup.subbooks[0][0] = 1;
                CHECK.due("a point at " + place + ", r " + r, take(x, setup.bits()), 5);
                // 20 on the line, 1 is 19: the curve falls to it, and rises up to point 1.
                take(x, Packets.channel(Packets.shortSound(), 20, 20).word("1"));
                for (int at = 0; at < 32; at++) {
                    int due = at >= 4 << r || at == 0 ? 20 : at < place ? 20 - at / place : at == place ? 19 : 19 + (at - place) / ((4 << r) - place);
                    CHECK.due("curve(0, " + at + ") with a point at " + place, x.curve(0, at), due);
                }
            }
        }
    }

    private static void pointsAtOnePlace() {
        CHECK.sentence("refused if two points are at one place.");
        for (int r = 0; r < 4; r++) {
            int most = (4 << r) - 1;
            CHECK.due("at 1 and at " + most, take(withBooks(1, 1), pointsAt(r, 1, most).bits()), 5);
            CHECK.due("at " + most + " and at 1", take(withBooks(1, 1), pointsAt(r, most, 1).bits()), 5);
            CHECK.due("neighbours", take(withBooks(1, 1), pointsAt(r, 2, 3, 1).bits()), 5);
            refused("a point at 0 for r " + r, pointsAt(r, 0));
            refused("the second at 0 for r " + r, pointsAt(r, 1, 0));
            refused("two at 1 for r " + r, pointsAt(r, 1, 1));
            refused("two at " + most, pointsAt(r, most, 1, most));
        }
        int[] twelve = {1, 2, 3, 4, 5, 6, 7, 8, 9, 10, 11, 12};
        CHECK.due("twelve places", take(withBooks(1, 1), pointsAt(3, twelve).bits()), 5);
        for (int k = 0; k < 12; k++) {
            for (int i = 0; i < k; i++) {
                int[] places = twelve.clone();
                places[k] = places[i];
                CHECK.due("points " + i + " and " + k + " of twelve at one place", take(withBooks(1, 1), pointsAt(3, places).bits()), 0);
            }
        }
    }

    private static void modes() {
        CHECK.sentence("Values: 2 bits MODE, refused if it is 3");
        for (int mode = 0; mode < 3; mode++) {
            Setup setup = new Setup();
            setup.mode = mode;
            CHECK.due("MODE " + mode, take(withBooks(1, 1), setup.bits()), 5);
        }
        Setup setup = new Setup();
        setup.mode = 3;
        refused("MODE 3", setup);
    }

    private static void endBelowBegin() {
        CHECK.sentence("5 bits BEGIN; 6 bits END, refused if it is less than BEGIN");
        int[][] good = {{0, 0}, {0, 63}, {1, 1}, {1, 2}, {15, 15}, {16, 17}, {31, 31}, {31, 32}, {31, 63}};
        for (int[] pair : good) {
            Setup setup = new Setup();
            setup.begin = pair[0];
            setup.end = pair[1];
            CHECK.due("BEGIN " + pair[0] + ", END " + pair[1], take(withBooks(1, 1), setup.bits()), 5);
        }
        int[][] wrong = {{1, 0}, {2, 1}, {16, 15}, {31, 30}, {31, 0}};
        for (int[] pair : wrong) {
            Setup setup = new Setup();
            setup.begin = pair[0];
            setup.end = pair[1];
            refused("BEGIN " + pair[0] + ", END " + pair[1], setup);
        }
    }

    private static void partSizes() {
        CHECK.sentence("or the part size is no multiple of its dimension.");
        for (int d = 1; d <= 4; d++) {
            for (int size = 1; size <= 8; size++) {
                for (int spot = 0; spot < 4; spot++) {
                    LacedSound x = withBooks(1, 1);
                    Talk.tell(x, Packets.vectors(Packets.even(d, 1), 1, 0, 1, 0, 1, 0, 1));
                    Setup setup = new Setup();
                    setup.partSize = size;
                    passBook(setup, spot, 1);
                    String what = "parts of " + size + " with dimension " + d + " in spot " + spot;
                    CHECK.due(what, take(x, setup.bits()), size % d == 0 ? 5 : 0);
                }
            }
        }
        // Book 1 has dimension 2. The kinds' book may be of any dimension.
        for (int size = 1; size < 8; size += 2) {
            Setup setup = new Setup();
            setup.partSize = size;
            passBook(setup, 3, 1);
            setup.books = new int[] {2, 2, 2, 1};
            refused("parts of " + size + " with dimension 2", setup);
        }
        LacedSound x = withBooks(1, 1);
        Talk.tell(x, Packets.evenBook(3, 1));
        Setup setup = new Setup();
        setup.kindsBook = 1;
        CHECK.due("a kinds' book of dimension 3", take(x, setup.bits()), 5);
    }

    private static void booksWithoutVectors() {
        CHECK.sentence("refused if the book has no vectors");
        for (int spot = 0; spot < 4; spot++) {
            Setup setup = new Setup();
            setup.partSize = 2;
            passBook(setup, spot, 0);
            for (int k = 0; k < 4; k++) {
                setup.books[k] = k == spot ? 0 : 1 + k % 2;
            }
            refused("book 0 in spot " + spot, setup);
            setup.books[spot] = 1;
            LacedSound x = new LacedSound();
            Packets.live(x);
            CHECK.due("book 1 in spot " + spot, take(x, setup.bits()), 5);
        }
        Setup setup = new Setup();
        setup.kindsBook = 0;
        LacedSound x = new LacedSound();
        Packets.live(x);
        CHECK.due("a kinds' book without vectors", take(x, setup.bits()), 5);
    }

    private static void joined() {
        CHECK.sentence("Then 1 bit JOINED, refused if it is 1 with one channel.");
        for (int channels = 1; channels <= 2; channels++) {
            for (int bit = 0; bit < 2; bit++) {
                Setup setup = new Setup();
                setup.joined = bit;
                boolean good = bit == 0 || channels == 2;
                CHECK.due("JOINED " + bit + " with " + channels, take(withBooks(channels, 1), setup.bits()), good ? 5 : 0);
            }
        }
        Setup setup = new Setup();
        setup.joined = 1;
        Twins.refusedPacket(CHECK, "JOINED with one channel", x -> {
            Packets.live(x);
            Talk.tell(x, Packets.format(1, 0, 1));
            Talk.tell(x, Packets.plainSetup());
            Talk.tell(x, Packets.channel(Packets.shortSound(), 4, 9));
        }, setup.bits().bytes());
    }

    private static void outAtEnd() {
        CHECK.sentence("and so is a FORMAT, BOOK or SETUP packet that is OUT anywhere.");
        for (int kinds = 1; kinds <= 2; kinds++) {
            for (int has = 0; has < 1 << 2 * kinds; has++) {
                for (int parts = 0; parts < 3; parts++) {
                    Setup setup = pointsAt(0, java.util.Arrays.copyOf(new int[] {1, 2}, parts));
                    setup.kinds = kinds;
                    setup.has = has;
                    setup.books = new int[Integer.bitCount(has)];
                    List<Integer> bytes = setup.bits().bytes();
                    LacedSound x = withBooks(1, 1);
                    CHECK.due(setup.bits().count() + " bits", take(x, setup.bits()), 5);
                    Talk.bring(x, 3, 0, false, bytes.subList(0, bytes.size() - 1));
                    CHECK.due(setup.bits().count() + " bits less a byte", x.take(), 0);
                }
            }
        }
    }

    private static void blockStays() {
        CHECK.sentence("Accepted: this is the setup from now on (the block, its curves and values, and samples() stay).");
        LacedSound x = new LacedSound();
        Packets.live(x);
        int[] due = {x.block(), x.samples(), x.curve(0, 3), x.curve(1, 3), x.value(0, 1), x.value(1, 1)};
        CHECK.due("SETUP", take(x, new Setup().bits()), 5);
        CHECK.due("block()", x.block(), due[0]);
        CHECK.due("samples()", x.samples(), due[1]);
        CHECK.due("curve(0, 3)", x.curve(0, 3), due[2]);
        CHECK.due("curve(1, 3)", x.curve(1, 3), due[3]);
        CHECK.due("value(0, 1)", x.value(0, 1), due[4]);
        CHECK.due("value(1, 1)", x.value(1, 1), due[5]);
        CHECK.due("curve(0, 4)", x.curve(0, 4), -1);
        CHECK.due("a SOUND then", take(x, Packets.channel(Packets.longSound(3), 2, 2).put(0, 1)), 2);
        CHECK.due("samples() grows from where it was", x.samples(), due[1] + 2 + 4);
        CHECK.due("block() then", x.block(), 1 + 6 + 8);
    }

    private static void fromNowOn() {
        CHECK.sentence("Accepted: this is the setup from now on");
        LacedSound x = withBooks(1, 1);
        int[] widths = {5, 4, 4, 3};
        for (int round = 0; round < 8; round++) {
            Setup setup = pointsAt(3, 9, 30);
            setup.g = 3 - round % 4;
            CHECK.due("SETUP " + round, Talk.tell(x, setup.bits()), 5);
            int width = widths[setup.g];
            Talk.tell(x, Packets.shortSound().put(1, 1).put(5, width).put(5, width));
            CHECK.due("curve(0, 0) with G " + setup.g, x.curve(0, 0), 5 * (setup.g + 1));
        }
    }

    private static void refusedKeepsTheSetup() {
        CHECK.sentence("A refused packet changes nothing.");
        // What is refused at its very last bit has been read as a whole.
        LacedSound x = withBooks(1, 2);
        Setup good = pointsAt(1, 4);
        good.g = 1;
        good.end = 2;
        good.has = 1;
        good.books = new int[] {0};
        Setup wrong = pointsAt(2, 2, 7, 9);
        wrong.g = 3;
        wrong.mode = 0;
        wrong.end = 4;
        wrong.partSize = 2;
        wrong.has = 2;
        wrong.books = new int[] {1};
        wrong.joined = 1;
        CHECK.due("SETUP", Talk.tell(x, good.bits()), 5);
        CHECK.due("a refused SETUP", Talk.tell(x, wrong.bits()), 0);
        CHECK.due("SOUND", Talk.tell(x, Packets.shortSound().put(1, 1).put(6, 4).put(6, 4).put(15, 4)), 2);
        CHECK.due("curve(0, 0)", x.curve(0, 0), 12);
        CHECK.due("value(0, 0)", x.value(0, 0), 1);
        CHECK.due("value(0, 1)", x.value(0, 1), 1);
        CHECK.due("value(0, 2)", x.value(0, 2), 0);
        CHECK.due("block()", x.block(), 8);
    }
}
