import java.util.ArrayList;
import java.util.Collections;
import java.util.List;
import java.util.Random;

/** Random runs of calls, from fixed seeds, on the program and on PlainModel side by side. */
public final class ModelTest {
    private static final int CALLS = 512;
    private static int wrong;

    private final int run;
    private final Random random;
    private final LacedSound x = new LacedSound();
    private final PlainModel model = new PlainModel();
    private final StringBuilder story = new StringBuilder();
    private int calls;
    private boolean differs;

    private ModelTest(int run) {
        this.run = run;
        this.random = new Random(run);
    }

    public static void main(String[] args) {
        int runs = Integer.getInteger("runs", 1500);
        for (int run = 0; run < runs && wrong < 5; run++) {
            new ModelTest(3 * run).wireRun();
            new ModelTest(3 * run + 1).soundRun();
            new ModelTest(3 * run + 2).mixedRun();
        }
        System.out.println(wrong == 0 ? "ModelTest: " + 3 * runs + " runs agree" : "ModelTest: " + wrong + " runs differ");
        System.exit(wrong == 0 ? 0 : 1);
    }

    private boolean more() {
        return !differs && calls < CALLS;
    }

    private int below(int n) {
        return random.nextInt(n);
    }

    private boolean chance(int percent) {
        return below(100) < percent;
    }

    private int same(String call, int got, int due) {
        calls++;
        story.append(call).append(" = ").append(got).append('\n');
        if (got != due && !differs) {
            differs = true;
            wrong++;
            System.out.println("run " + run + ", call " + calls + ": " + call + " answered " + got + ", due is " + due);
            if (Boolean.getBoolean("story")) {
                System.out.println(story);
            }
        }
        return due;
    }

    private int add(long bytes, int n) {
        return more() ? same("add(" + bytes + ", " + n + ")", x.add(bytes, n), model.add(bytes, n)) : 0;
    }

    private int raw(long bytes, int n) {
        return more() ? same("raw(" + bytes + ", " + n + ")", x.raw(bytes, n), model.raw(bytes, n)) : 0;
    }

    private int send(int stream, int time) {
        return more() ? same("send(" + stream + ", " + time + ")", x.send(stream, time), model.send(stream, time)) : 0;
    }

    private int flush(int stream, boolean last) {
        return more() ? same("flush(" + stream + ", " + last + ")", x.flush(stream, last), model.flush(stream, last)) : 0;
    }

    private void alter(int place, int mask) {
        if (more()) {
            same("alter(" + place + ", " + mask + ")", x.alter(place, mask) ? 1 : 0, model.alter(place, mask) ? 1 : 0);
        }
    }

    private void cut(int place, int n) {
        if (more()) {
            same("cut(" + place + ", " + n + ")", x.cut(place, n) ? 1 : 0, model.cut(place, n) ? 1 : 0);
        }
    }

    private int next() {
        return more() ? same("next()", x.next(), model.next()) : 0;
    }

    private int take() {
        return more() ? same("take()", x.take(), model.take()) : 0;
    }

    private void ask() {
        if (!more()) {
            return;
        }
        int k = below(70) - 2;
        int c = below(4) - 1;
        int w = below(1010) - 5;
        switch (below(13)) {
            case 0 -> same("wire(" + w + ")", x.wire(w), model.wire(w));
            case 1 -> same("length()", x.length(), model.length());
            case 2 -> same("amount()", x.amount(), model.amount());
            case 3 -> same("serial()", x.serial(), model.serial());
            case 4 -> same("time()", x.time(), model.time());
            case 5 -> same("octet(" + k + ")", x.octet(k), model.octet(k));
            case 6 -> same("pieces()", x.pieces(), model.pieces());
            case 7 -> same("entry(" + c + ", " + k % 10 + ")", x.entry(c, k % 10), model.entry(c, k % 10));
            case 8 -> same("block()", x.block(), model.block());
            case 9, 10 -> same("curve(" + c + ", " + k / 2 + ")", x.curve(c, k / 2), model.curve(c, k / 2));
            case 11 -> same("value(" + c + ", " + k / 2 + ")", x.value(c, k / 2), model.value(c, k / 2));
            default -> same("samples()", x.samples(), model.samples());
        }
    }

    private void askEvent() {
        for (int k = 0; k < 2; k++) {
            ask();
        }
        if (more() && chance(60)) {
            same("amount()", x.amount(), model.amount());
        }
        if (more() && chance(60)) {
            same("time()", x.time(), model.time());
        }
        if (more() && chance(60)) {
            same("serial()", x.serial(), model.serial());
        }
        if (more() && chance(60)) {
            same("pieces()", x.pieces(), model.pieces());
        }
    }

    /** The writer, pages that no writer would make, damage, and the reader. */
    private void wireRun() {
        while (more()) {
            wireStep();
        }
    }

    private void wireStep() {
        switch (below(16)) {
            case 0, 1, 2, 3 -> add(random.nextLong(), chance(95) ? 1 + below(8) : below(12) - 2);
            case 4, 5, 6 -> send(chance(95) ? below(4) : below(8) - 2, chance(95) ? below(65535) : below(4) + 65533 - 65535 * below(2));
            case 7, 8 -> flush(chance(95) ? below(4) : below(8) - 2, chance(20));
            case 9 -> rawPage();
            case 10 -> raw(random.nextLong(), chance(90) ? 1 + below(3) : below(12) - 1);
            case 11 -> alter(nearRead(), chance(90) ? 1 << below(8) : below(300) - 20);
            case 12 -> cut(nearRead(), chance(90) ? 1 + below(20) : below(2000) - 200);
            case 13, 14 -> drain();
            default -> askEvent();
        }
    }

    private int nearRead() {
        return model.readPlace + (chance(80) ? below(1 + Math.max(1, model.wire.size() - model.readPlace)) : below(60) - 30);
    }

    private void drain() {
        int event = -1;
        for (int k = below(6); k >= 0 && event != 0; k--) {
            event = next();
            askEvent();
            if (chance(25)) {
                take();
            }
        }
    }

    private void rawPage() {
        int n = below(7);
        Integer[] lacings = new Integer[n];
        for (int k = 0; k < n; k++) {
            lacings[k] = chance(40) ? 15 : chance(50) ? below(15) : below(3);
        }
        int serial = chance(90) ? below(5) : below(256);
        int number = below(256);
        if (model.known.containsKey(serial) && chance(85)) {
            number = (model.known.get(serial).number + 1) % 256;
        }
        int flags = (chance(40) ? 1 : 0) + (chance(15) ? 2 : 0) + (chance(15) ? 4 : 0);
        List<Integer> page = Pages.counting(flags, serial, number, chance(80) ? below(65535) : 65535, lacings);
        if (chance(10)) {
            int place = below(page.size());
            page.set(place, page.get(place) ^ 1 << below(8));
            if (chance(50)) {
                Pages.seal(page);
            }
        }
        int keep = chance(10) ? below(page.size()) : page.size();
        for (int from = 0; from < keep; from += 8) {
            int m = Math.min(8, keep - from);
            raw(Pages.word(page, from, m), m);
        }
    }

    /** Packets that are mostly as they should be, on one stream, each decoded at once. */
    private void soundRun() {
        deliver(format());
        int books = 2 + below(3);
        for (int k = 0; k < books; k++) {
            deliver(book());
        }
        deliver(setup());
        while (more() && model.wire.size() < 930) {
            int choice = below(20);
            if (choice == 0) {
                deliver(format());
            } else if (choice == 1) {
                deliver(book());
            } else if (choice < 5 || model.plan == null) {
                deliver(setup());
            } else {
                deliver(sound());
            }
        }
        while (more()) {
            ask();
        }
    }

    private void mixedRun() {
        deliver(format());
        deliver(book());
        deliver(book());
        deliver(setup());
        while (more()) {
            if (chance(50)) {
                deliver(chance(80) ? sound() : setup());
            } else {
                wireStep();
            }
        }
    }

    private void deliver(List<Integer> packet) {
        List<Integer> bytes = packet;
        if (chance(4)) {
            bytes = bytes.subList(0, below(bytes.size()));
        }
        bytes = bytes.subList(0, Math.min(64, bytes.size()));
        for (int from = 0; from < bytes.size(); from += 8) {
            int n = Math.min(8, bytes.size() - from);
            add(Pages.word(bytes, from, n), n);
        }
        int stream = model.ended[0] ? 1 : 0;
        send(stream, chance(90) ? below(60) : below(65535));
        flush(stream, chance(6));
        int event = 0;
        do {
            event = next();
            if (event == 3) {
                take();
                if (chance(30)) {
                    ask();
                }
            }
        } while (event != 0 && more());
        for (int k = 0; k < 6; k++) {
            askBlock();
        }
    }

    private void askBlock() {
        if (!more() || model.blockSize == 0) {
            return;
        }
        int c = below(model.channels);
        int place = below(model.blockSize / 2);
        switch (below(7)) {
            case 0 -> same("block()", x.block(), model.block());
            case 1 -> same("samples()", x.samples(), model.samples());
            case 2, 3 -> same("curve(" + c + ", " + place + ")", x.curve(c, place), model.curve(c, place));
            default -> same("value(" + c + ", " + place + ")", x.value(c, place), model.value(c, place));
        }
    }

    private List<Integer> format() {
        int a = below(4);
        int b = chance(85) ? a + below(4 - a) : below(4);
        return new Bits().put(1, 8).put(chance(75) ? 1 : 0, 1).put(a, 2).put(b, 2).bytes();
    }

    private List<Integer> book() {
        int d = chance(50) ? 1 : 1 + below(4);
        List<Integer> lengths = new ArrayList<>(List.of(0));
        int leaves = 1 + below(8);
        while (lengths.size() < leaves) {
            int k = below(lengths.size());
            int longer = lengths.remove(k) + 1;
            lengths.add(longer);
            lengths.add(longer);
        }
        if (leaves == 1) {
            lengths.set(0, 1);
        }
        Collections.shuffle(lengths, random);
        Bits bits = new Bits().put(3, 8).put(d - 1, 2);
        if (chance(40)) {
            orderedLengths(bits, lengths);
        } else {
            freeLengths(bits, lengths);
        }
        int kind = chance(97) ? chance(20) ? 0 : 1 + below(2) : 3;
        bits.put(kind, 2).put(below(16), 4).put(below(8), 3).put(below(2), 1).put(below(4), 2);
        for (int k = 0; k < 24; k++) {
            bits.put(random.nextInt(), 6);
        }
        return bits.bytes();
    }

    private void orderedLengths(Bits bits, List<Integer> lengths) {
        Collections.sort(lengths);
        int length = lengths.get(0) - (chance(20) && lengths.get(0) > 1 ? 1 : 0);
        bits.put(lengths.size() - 1, 3).put(1, 1).put(length - 1, 3);
        int done = 0;
        for (int l = length; done < lengths.size(); l++) {
            int left = lengths.size() - done;
            int count = Collections.frequency(lengths, l) + (chance(3) ? 1 : 0);
            bits.put(count, Integer.toBinaryString(left).length());
            done += count;
        }
    }

    private void freeLengths(Bits bits, List<Integer> lengths) {
        boolean sparse = chance(40);
        while (sparse && lengths.size() < 8 && chance(60)) {
            lengths.add(below(lengths.size() + 1), 0);
        }
        bits.put(lengths.size() - 1, 3).put(0, 1).put(sparse ? 1 : 0, 1);
        for (int length : lengths) {
            if (sparse) {
                bits.put(length > 0 ? 1 : 0, 1);
            }
            if (length > 0) {
                bits.put(length - 1 + (chance(2) ? 1 : 0), 3);
            }
        }
    }

    private int bookNumber() {
        return model.books.isEmpty() || chance(2) ? below(4) : below(model.books.size());
    }

    private List<Integer> setup() {
        int parts = below(4);
        Bits bits = new Bits().put(5, 8).put(below(4), 2).put(parts, 2);
        List<Integer> classes = new ArrayList<>();
        for (int k = 0; k < parts; k++) {
            classes.add(below(2));
            bits.put(classes.get(k), 1);
        }
        int[] sizes = new int[2];
        for (int k = 0; parts > 0 && k <= Collections.max(classes); k++) {
            sizes[k] = 1 + below(chance(50) ? 2 : 4);
            boolean split = chance(50);
            bits.put(sizes[k] - 1, 2).put(split ? 1 : 0, 1);
            if (split) {
                bits.put(bookNumber(), 2).put(chance(30) ? 0 : bookNumber() + 1, 3);
            }
            bits.put(chance(30) ? 0 : bookNumber() + 1, 3);
        }
        int total = 0;
        for (int c : classes) {
            total += sizes[c];
        }
        int r = total > 7 ? 2 + below(2) : total > 3 ? 1 + below(3) : below(4);
        bits.put(r, 2);
        List<Integer> places = new ArrayList<>();
        for (int k = 1; k < 1 << (r + 2); k++) {
            places.add(k);
        }
        Collections.shuffle(places, random);
        for (int k = 0; k < total; k++) {
            bits.put(chance(1) ? 0 : places.get(k % places.size()), r + 2);
        }
        int begin = chance(70) ? below(4) : below(32);
        int end = chance(97) ? begin + below(64 - begin) : below(64);
        int kinds = 1 + below(2);
        int partSize = chance(40) ? 4 : chance(50) ? 8 : 1 + below(8);
        bits.put(chance(97) ? below(3) : 3, 2).put(begin, 5).put(end, 6).put(partSize - 1, 3).put(kinds - 1, 1);
        bits.put(bookNumber(), 2);
        int has = below(1 << 2 * kinds);
        bits.put(has, 2 * kinds);
        for (int k = 0; k < Integer.bitCount(has); k++) {
            bits.put(goodBook(partSize), 2);
        }
        return bits.put(model.channels == 1 && chance(95) ? 0 : below(2), 1).bytes();
    }

    private int goodBook(int partSize) {
        for (int k = 0; k < 20; k++) {
            int number = bookNumber();
            if (number < model.books.size() && model.books.get(number).vectors != null
                && partSize % model.books.get(number).dimension == 0) {
                return number;
            }
        }
        return bookNumber();
    }

    private List<Integer> sound() {
        Bits bits = new Bits().put(0, 1);
        if (chance(60)) {
            bits.put(1, 1).put(below(4), 2);
        } else {
            bits.put(0, 1);
        }
        bits.put(chance(80) ? 1 : 0, 1);
        int bytes = 1 + (chance(50) ? below(12) : below(60));
        while (bits.count() < 8 * bytes) {
            bits.put(random.nextInt(), 1);
        }
        return bits.bytes();
    }
}
