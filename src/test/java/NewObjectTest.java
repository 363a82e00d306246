/** Promise 1, part by part of its sentence. */
public final class NewObjectTest {
    public static void main(String[] args) {
        Check check = new Check("NewObjectTest");
        LacedSound x = new LacedSound();
        check.sentence("NONE = -1");
        check.due("NONE", LacedSound.NONE, -1);
        check.sentence("no event, no packet in hand; no book, format or setup.");
        check.due("length()", x.length(), 0);
        check.due("wire(0)", x.wire(0), -1);
        check.due("amount()", x.amount(), -1);
        check.due("serial()", x.serial(), -1);
        check.due("time()", x.time(), -1);
        check.due("octet(0)", x.octet(0), -1);
        check.due("pieces()", x.pieces(), 0);
        check.due("take()", x.take(), -1);
        check.due("entry(0, 0)", x.entry(0, 0), -1);
        check.due("block()", x.block(), -1);
        check.due("curve(0, 0)", x.curve(0, 0), -1);
        check.due("value(0, 0)", x.value(0, 0), 0);
        check.due("samples()", x.samples(), 0);
        check.due("next()", x.next(), 0);
        check.due("alter(0, 1)", x.alter(0, 1), false);
        check.due("cut(0, 1)", x.cut(0, 1), false);
        for (int stream = 0; stream < 4; stream++) {
            check.due("flush of a stream where nothing waits", x.flush(stream, false), 0);
        }
        check.due("the first of four pages is at place 0", x.wire(0), 76);
        check.due("add with nothing at hand", x.add(1, 1), 1);
        apart(check);
        readPlace(check);
        nothingWaits(check);
        noStream(check);
        withoutFormat(check);
        check.end();
    }

    private static void readPlace(Check check) {
        check.sentence("An empty wire, the read place 0");
        LacedSound x = new LacedSound();
        x.raw(0, 1);
        check.due("alter(0, 76)", x.alter(0, 76), true);
        check.due("next() at place 0, which is OPEN", x.next(), 0);
        check.due("cut(0, 1)", x.cut(0, 1), true);
    }

    private static void nothingWaits(Check check) {
        check.sentence("no bytes at hand, nothing waits in the writer's streams");
        for (int stream = 0; stream < 4; stream++) {
            LacedSound x = new LacedSound();
            check.due("send of nothing", x.send(stream, 0), 0);
            check.due("flush of that packet alone", x.flush(stream, false), 1);
            check.due("its lacing value", x.wire(14), 0);
            check.due("length()", x.length(), 15);
        }
    }

    private static void noStream(Check check) {
        check.sentence("the reader knows no stream");
        LacedSound x = new LacedSound();
        for (int serial = 0; serial < 3; serial++) {
            Pages.put(x, Pages.counting(Pages.CONTINUED, serial, 50, 1));
        }
        check.due("three pages of any number give no event", x.next(), 0);
        Pages.put(x, Pages.counting(0, 3, 0, 1));
        check.due("the fourth is a STRANGER", x.next(), 5);
    }

    private static void apart(Check check) {
        LacedSound x = new LacedSound();
        LacedSound y = new LacedSound();
        x.raw(5, 1);
        x.add(5, 1);
        check.due("length() of another object", y.length(), 0);
        check.due("add on another object", y.add(5, 1), 1);
    }

    private static void withoutFormat(Check check) {
        LacedSound x = new LacedSound();
        check.due("a SOUND without setup", Talk.tell(x, new Bits().put(0, 8)), 0);
        Talk.tell(x, Packets.evenBook(1, 3));
        check.due("a SETUP without FORMAT", Talk.tell(x, Packets.plainSetup()), 0);
        Talk.tell(x, Packets.format(1, 0, 0));
        check.due("the same SETUP with one", Talk.tell(x, Packets.plainSetup()), 5);
    }
}
