import java.util.ArrayList;
import java.util.List;
import java.util.function.BiConsumer;
import java.util.function.Consumer;
import java.util.function.ToIntFunction;

/**
 * Holds an object on which a call was refused against a twin on which it was never made: all that
 * they answer from then on must be the same. The run is told anew for each look at them, so that
 * no object is used for more than 512 calls.
 */
final class Twins {
    /** A serial that no test uses. */
    private static final int OWN = 250;

    private record Look(String name, BiConsumer<LacedSound, List<Integer>> from) { }

    private static final List<Look> LOOKS = List.of(
        new Look("what is told", Twins::told),
        new Look("the wire up to 250", (x, log) -> wire(x, log, 0)),
        new Look("the wire up to 500", (x, log) -> wire(x, log, 250)),
        new Look("the wire up to 750", (x, log) -> wire(x, log, 500)),
        new Look("the wire up to 1000", (x, log) -> wire(x, log, 750)),
        new Look("the bytes at hand and stream 0", (x, log) -> writer(x, log, 0)),
        new Look("the bytes at hand and stream 1", (x, log) -> writer(x, log, 1)),
        new Look("the bytes at hand and stream 2", (x, log) -> writer(x, log, 2)),
        new Look("the bytes at hand and stream 3", (x, log) -> writer(x, log, 3)),
        new Look("the events to come", Twins::events),
        new Look("the packets to come", Twins::packets),
        new Look("the streams that are known", Twins::streams),
        new Look("a short block to come", (x, log) -> sound(x, log, 4)),
        new Look("a long block to come", (x, log) -> sound(x, log, 2)),
        new Look("a book to come", Twins::book),
        new Look("a setup to come, in parts of 4", (x, log) -> setups(x, log, 4)),
        new Look("a setup to come, in parts of 3", (x, log) -> setups(x, log, 3)));

    private Twins() { }

    /** The call on an object with this past answers what is due, and changes nothing. */
    static void refused(Check check, String what, Consumer<LacedSound> past, ToIntFunction<LacedSound> call, int due) {
        refused(check, what, past, call, due, x -> { });
    }

    /** The same, looked at only when both twins have gone on with some further calls. */
    static void refused(Check check, String what, Consumer<LacedSound> past, ToIntFunction<LacedSound> call, int due,
            Consumer<LacedSound> further) {
        for (Look look : LOOKS) {
            LacedSound one = new LacedSound();
            past.accept(one);
            check.due(what, call.applyAsInt(one), due);
            further.accept(one);
            LacedSound other = new LacedSound();
            past.accept(other);
            further.accept(other);
            compare(check, what + ": " + look.name + " afterwards", answers(look, one), answers(look, other));
        }
    }

    /**
     * The packet is refused, and nothing is changed but that it is in hand no more: so the twin,
     * which does not take it, gets another one in hand, and both do.
     */
    static void refusedPacket(Check check, String what, Consumer<LacedSound> past, List<Integer> packet) {
        Consumer<LacedSound> bring = x -> {
            past.accept(x);
            Talk.bring(x, 3, 0, false, packet);
        };
        refused(check, what, bring, LacedSound::take, 0, x -> Talk.bring(x, 3, 0, false, List.of(7)));
    }

    private static List<Integer> answers(Look look, LacedSound x) {
        List<Integer> log = new ArrayList<>();
        look.from.accept(x, log);
        return log;
    }

    private static void compare(Check check, String what, List<Integer> got, List<Integer> due) {
        check.due(what + ": how many answers", got.size(), due.size());
        int k = 0;
        while (k < got.size() && k < due.size() - 1 && got.get(k).equals(due.get(k))) {
            k++;
        }
        check.due(what + ": answer " + k, got.get(k), due.get(k));
    }

    private static void told(LacedSound x, List<Integer> log) {
        log.addAll(List.of(x.length(), x.amount(), x.serial(), x.time(), x.pieces(), x.block(), x.samples()));
        for (int k = -1; k <= 70; k++) {
            log.add(x.octet(k));
        }
        for (int book = 0; book <= 4; book++) {
            for (int entry = 0; entry <= 8; entry++) {
                log.add(x.entry(book, entry));
            }
        }
        block(x, log);
    }

    private static void block(LacedSound x, List<Integer> log) {
        for (int channel = 0; channel < 2; channel++) {
            for (int place = 0; place <= 32; place++) {
                log.add(x.curve(channel, place));
                log.add(x.value(channel, place));
            }
        }
    }

    private static void wire(LacedSound x, List<Integer> log, int from) {
        for (int place = from; place < from + 250; place++) {
            log.add(x.wire(place));
        }
    }

    private static void makeRoom(LacedSound x, List<Integer> log) {
        log.add(x.length());
        if (x.length() > 700) {
            log.add(x.cut(x.length() - 300, 300) ? 1 : 0);
        }
    }

    private static void writer(LacedSound x, List<Integer> log, int stream) {
        makeRoom(x, log);
        int from = x.length();
        log.addAll(List.of(x.add(90, 1), x.send(stream, 77), x.flush(stream, false), x.length()));
        for (int place = from; place < x.length() && place < from + 125; place++) {
            log.add(x.wire(place));
        }
    }

    private static void event(LacedSound x, List<Integer> log) {
        log.addAll(List.of(x.next(), x.amount(), x.serial(), x.time(), x.pieces()));
    }

    private static void events(LacedSound x, List<Integer> log) {
        for (int k = 0; k < 15; k++) {
            event(x, log);
            log.addAll(List.of(x.octet(0), x.octet(x.amount() - 1)));
        }
    }

    private static void packets(LacedSound x, List<Integer> log) {
        for (int k = 0; k < 15; k++) {
            log.addAll(List.of(x.take(), x.block(), x.samples(), x.entry(0, 0)));
            event(x, log);
        }
    }

    private static void drain(LacedSound x, List<Integer> log) {
        for (int k = 0; k < 20; k++) {
            log.add(x.next());
        }
    }

    /** A GAP tells the number of the page before, the pieces an unfinished packet. */
    private static void streams(LacedSound x, List<Integer> log) {
        makeRoom(x, log);
        drain(x, log);
        for (int serial : new int[] {0, 1, 2, 3, 4, 9, 10, 11, 12, 13}) {
            Pages.put(x, Pages.counting(Pages.CONTINUED, serial, 77, 5, 3));
            for (int k = 0; k < 3; k++) {
                event(x, log);
            }
        }
    }

    private static int deliver(LacedSound x, List<Integer> packet) {
        List<Integer> lacings = new ArrayList<>();
        for (int left = packet.size(); left >= 15; left -= 15) {
            lacings.add(15);
        }
        lacings.add(packet.size() % 15);
        Pages.put(x, Pages.of(Pages.FIRST | Pages.LAST, OWN, 0, 65535, lacings, packet));
        x.next();
        int answer = x.take();
        x.next();
        return answer;
    }

    private static List<Integer> noise(int first) {
        Bits bits = new Bits().put(first, 4);
        int word = 1;
        for (int k = 0; k < 200; k++) {
            word = word * 1103515245 + 12345;
            bits.put(k == 0 ? 1 : word >> 16, 1);
        }
        return bits.bytes();
    }

    private static void sound(LacedSound x, List<Integer> log, int first) {
        makeRoom(x, log);
        drain(x, log);
        log.addAll(List.of(deliver(x, noise(first)), x.block(), x.samples()));
        block(x, log);
    }

    /** A book with one used entry, and one that is ORDERED. */
    private static void book(LacedSound x, List<Integer> log) {
        makeRoom(x, log);
        drain(x, log);
        log.add(deliver(x, Packets.book(1, 3, 0).put(1, 1).put(0, 2).put(1, 1).put(0, 3).put(0, 2).bytes()));
        log.add(deliver(x, Packets.book(2, 3, 1).put(0, 3).put(1, 2).put(2, 2).put(0, 2).bytes()));
        for (int book = 0; book < 5; book++) {
            for (int entry = 0; entry < 9; entry++) {
                log.add(x.entry(book, entry));
            }
        }
    }

    /** Setups that lay each book's vectors open. */
    private static void setups(LacedSound x, List<Integer> log, int partSize) {
        makeRoom(x, log);
        drain(x, log);
        for (int book = 0; book < 4; book++) {
            Bits setup = Packets.values(Packets.bareCurve(0, 0), 1, 0, 32, partSize, 1, 0).put(1, 2).put(book, 2).put(0, 1);
            log.addAll(List.of(deliver(x, setup.bytes()), deliver(x, noise(2)), x.block(), x.samples()));
            for (int place = 0; place < 32; place++) {
                log.add(x.value(0, place));
            }
        }
    }
}
