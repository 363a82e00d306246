import java.util.ArrayDeque;
import java.util.ArrayList;
import java.util.Arrays;
import java.util.List;
import java.util.TreeMap;

/**
 * The document told once more, with lists and exceptions instead of rows and flags, so that
 * ModelTest can hold the program against a second reading of it.
 */
final class PlainModel {
    /** A packet was refused, or a read of it was OUT where that ends the matter. */
    private static final class Stop extends RuntimeException {
        private static final long serialVersionUID = 1L;

        Stop() {
            super(null, null, false, false);
        }
    }

    private record Segment(List<Integer> bytes, boolean first, int time) { }

    private record Happening(int kind, int amount, int serial, int time, List<Integer> packet, boolean closing) { }

    static final class Stream {
        int number;
        int packets;
        List<Integer> unfinished;
    }

    static final class Codes {
        int dimension;
        String[] words;
        int[][] vectors;
    }

    private static final class Source {
        final String bits;
        int at;
        boolean out;

        Source(List<Integer> bytes) {
            StringBuilder text = new StringBuilder();
            for (int b : bytes) {
                for (int k = 0; k < 8; k++) {
                    text.append((b >> k) & 1);
                }
            }
            bits = text.toString();
        }

        int get(int n) {
            if (out || at + n > bits.length()) {
                out = true;
                return 0;
            }
            String low = new StringBuilder(bits.substring(at, at + n)).reverse().toString();
            at += n;
            return Integer.parseInt(low, 2);
        }

        int sure(int n) {
            int got = get(n);
            if (out) {
                throw new Stop();
            }
            return got;
        }

        int entryOf(Codes codes) {
            List<String> used = Arrays.stream(codes.words).filter(w -> w != null).toList();
            if (used.size() == 1) {
                sure(1);
                return Arrays.asList(codes.words).indexOf(used.get(0));
            }
            String word = "";
            while (!used.contains(word)) {
                word += sure(1);
            }
            return Arrays.asList(codes.words).indexOf(word);
        }
    }

    private record PartClass(int size, boolean split, int master, int[] sub) { }

    private static final class Plan {
        int g;
        int[] parts;
        List<PartClass> classes = new ArrayList<>();
        List<Integer> points = new ArrayList<>();
        int mode;
        int begin;
        int end;
        int partSize;
        int kinds;
        int kindsBook;
        int[][] passBook;
        boolean joined;
    }

    final List<Integer> wire = new ArrayList<>();
    int readPlace;
    List<Integer> atHand = new ArrayList<>();
    final List<List<Segment>> waits = List.of(new ArrayList<>(), new ArrayList<>(), new ArrayList<>(), new ArrayList<>());
    final int[] sent = new int[4];
    final boolean[] ended = new boolean[4];
    final TreeMap<Integer, Stream> known = new TreeMap<>();
    final ArrayDeque<Happening> events = new ArrayDeque<>();
    Happening latest;
    Happening inHand;
    int pieces;
    final List<Codes> books = new ArrayList<>();
    int channels;
    int[] sizes;
    Plan plan;
    int blockSize;
    int marks;
    int[][] curves;
    int[][] values;
    int samples;

    int add(long bytes, int n) {
        if (n < 1 || n > 8 || atHand.size() + n > 64) {
            return -1;
        }
        append(atHand, bytes, n);
        return atHand.size();
    }

    private static void append(List<Integer> list, long bytes, int n) {
        for (int k = 0; k < n; k++) {
            list.add((int) ((bytes >> (8 * k)) & 0xFF));
        }
    }

    int send(int stream, int time) {
        if (stream < 0 || stream > 3 || ended[stream] || time < 0 || time > 65534) {
            return -1;
        }
        List<Segment> all = new ArrayList<>(waits.get(stream));
        int m = atHand.size();
        for (int k = 0; k <= m / 15; k++) {
            List<Integer> part = new ArrayList<>(atHand.subList(15 * k, Math.min(m, 15 * k + 15)));
            all.add(new Segment(part, k == 0, time));
        }
        List<List<Integer>> pages = new ArrayList<>();
        int total = wire.size();
        while (all.size() >= 6) {
            List<Integer> page = pageOf(stream, sent[stream] + pages.size(), all.subList(0, 6), false);
            pages.add(page);
            total += page.size();
            all = new ArrayList<>(all.subList(6, all.size()));
        }
        if (total > 1000) {
            return -1;
        }
        pages.forEach(wire::addAll);
        sent[stream] += pages.size();
        waits.get(stream).clear();
        waits.get(stream).addAll(all);
        atHand = new ArrayList<>();
        return pages.size();
    }

    int flush(int stream, boolean last) {
        if (stream < 0 || stream > 3 || ended[stream]) {
            return -1;
        }
        List<Integer> page = pageOf(stream, sent[stream], waits.get(stream), last);
        if (wire.size() + page.size() > 1000) {
            return -1;
        }
        wire.addAll(page);
        int n = waits.get(stream).size();
        waits.get(stream).clear();
        sent[stream]++;
        ended[stream] = last;
        return n;
    }

    private static List<Integer> pageOf(int stream, int number, List<Segment> segments, boolean last) {
        int time = 65535;
        List<Integer> lacings = new ArrayList<>();
        List<Integer> bytes = new ArrayList<>();
        for (Segment s : segments) {
            lacings.add(s.bytes.size());
            bytes.addAll(s.bytes);
            time = s.bytes.size() < 15 ? s.time : time;
        }
        boolean continued = !segments.isEmpty() && !segments.get(0).first;
        int flags = (continued ? 1 : 0) + (number == 0 ? 2 : 0) + (last ? 4 : 0);
        return Pages.of(flags, stream, number % 256, time, lacings, bytes);
    }

    int raw(long bytes, int n) {
        if (n < 1 || n > 8 || wire.size() + n > 1000) {
            return -1;
        }
        append(wire, bytes, n);
        return wire.size();
    }

    boolean alter(int place, int mask) {
        if (place < readPlace || place >= wire.size() || mask < 1 || mask > 255) {
            return false;
        }
        wire.set(place, wire.get(place) ^ mask);
        return true;
    }

    boolean cut(int place, int n) {
        if (place < readPlace || n < 1 || (long) place + n > wire.size()) {
            return false;
        }
        wire.subList(place, place + n).clear();
        return true;
    }

    int wire(int place) {
        return place < 0 || place >= wire.size() ? -1 : wire.get(place);
    }

    int length() {
        return wire.size();
    }

    /** -1 for BAD, 0 for OPEN, else the size of a GOOD page. */
    private int stateOf(int p) {
        int[] sign = {76, 97, 76, 83};
        List<Integer> rest = wire.subList(p, wire.size());
        for (int k = 0; k < 4 && k < rest.size(); k++) {
            if (rest.get(k) != sign[k]) {
                return -1;
            }
        }
        if (rest.size() > 4 && rest.get(4) > 7) {
            return -1;
        }
        if (rest.size() < 14) {
            return 0;
        }
        int n = rest.get(13);
        if (n > 6) {
            return -1;
        }
        List<Integer> lacings = rest.subList(14, Math.min(rest.size(), 14 + n));
        if (lacings.stream().anyMatch(v -> v > 15)) {
            return -1;
        }
        int size = 14 + n + lacings.stream().mapToInt(v -> v).sum();
        if (lacings.size() < n || rest.size() < size) {
            return 0;
        }
        List<Integer> page = new ArrayList<>(rest.subList(0, size));
        Pages.seal(page);
        return page.equals(rest.subList(0, size)) ? size : -1;
    }

    int next() {
        while (events.isEmpty()) {
            int state = stateOf(readPlace);
            if (state == 0) {
                return 0;
            }
            if (state > 0) {
                List<Integer> page = new ArrayList<>(wire.subList(readPlace, readPlace + state));
                readPlace += state;
                read(page);
            } else {
                int from = readPlace;
                while (stateOf(readPlace) < 0) {
                    readPlace++;
                }
                events.add(new Happening(1, readPlace - from, -1, -1, null, false));
            }
        }
        latest = events.remove();
        if (latest.kind == 3) {
            inHand = latest;
        }
        return latest.kind;
    }

    private void read(List<Integer> page) {
        int flags = page.get(4);
        boolean continued = flags % 2 == 1;
        boolean first = flags / 2 % 2 == 1;
        boolean last = flags / 4 == 1;
        int s = page.get(5);
        int number = page.get(6);
        int time = page.get(7) + 256 * page.get(8);
        int n = page.get(13);
        if (!known.containsKey(s) && known.size() == 3) {
            events.add(new Happening(5, page.size(), s, -1, null, false));
            return;
        }
        Stream stream = known.get(s);
        if (stream == null) {
            stream = new Stream();
            known.put(s, stream);
        } else if (first) {
            dropUnfinished(stream);
            stream.packets = 0;
        } else if (number != (stream.number + 1) % 256) {
            events.add(new Happening(2, Math.floorMod(number - (stream.number + 1), 256), s, -1, null, false));
            dropUnfinished(stream);
        }
        stream.number = number;
        int lastShort = -1;
        List<List<Integer>> segments = new ArrayList<>();
        int at = 14 + n;
        for (int k = 0; k < n; k++) {
            int lacing = page.get(14 + k);
            segments.add(page.subList(at, at + lacing));
            at += lacing;
            lastShort = lacing < 15 ? k : lastShort;
        }
        int passed = 0;
        if (!continued) {
            dropUnfinished(stream);
        } else if (stream.unfinished == null && n > 0) {
            pieces++;
            boolean more = true;
            while (more && passed < n) {
                more = segments.get(passed).size() == 15;
                passed++;
            }
        }
        for (int k = passed; k < n; k++) {
            if (stream.unfinished == null) {
                stream.unfinished = new ArrayList<>();
            }
            stream.unfinished.addAll(segments.get(k));
            if (segments.get(k).size() < 15) {
                boolean timed = k == lastShort;
                List<Integer> packet = stream.unfinished;
                stream.unfinished = null;
                stream.packets++;
                events.add(new Happening(3, packet.size(), s, timed ? time : 65535, packet, timed && last));
            }
        }
        if (last) {
            dropUnfinished(stream);
            events.add(new Happening(4, stream.packets, s, -1, null, false));
            known.remove(s);
        }
    }

    private void dropUnfinished(Stream stream) {
        pieces += stream.unfinished == null ? 0 : 1;
        stream.unfinished = null;
    }

    int amount() {
        return latest == null ? -1 : latest.amount;
    }

    int serial() {
        return latest == null ? -1 : latest.serial;
    }

    int time() {
        return latest == null ? -1 : latest.time;
    }

    int octet(int k) {
        return inHand == null || k < 0 || k >= inHand.packet.size() ? -1 : inHand.packet.get(k);
    }

    int pieces() {
        return pieces;
    }

    int take() {
        if (inHand == null) {
            return -1;
        }
        Happening event = inHand;
        inHand = null;
        try {
            Source source = new Source(event.packet);
            if (source.sure(1) == 0) {
                sound(source, event);
                return 2;
            }
            int type = 1 + 2 * source.sure(7);
            switch (type) {
                case 1 -> format(source);
                case 3 -> books.add(book(source));
                case 5 -> plan = setup(source);
                default -> throw new Stop();
            }
            return type;
        } catch (Stop refused) {
            return 0;
        }
    }

    private static void refuseIf(boolean reason) {
        if (reason) {
            throw new Stop();
        }
    }

    private void format(Source in) {
        int c = in.sure(1) + 1;
        int a = in.sure(2);
        int b = in.sure(2);
        refuseIf(a > b);
        channels = c;
        sizes = new int[] {8 << a, 8 << b};
        plan = null;
        blockSize = 0;
        samples = 0;
    }

    private Codes book(Source in) {
        refuseIf(books.size() == 4);
        Codes codes = new Codes();
        int d = in.sure(2) + 1;
        int e = in.sure(3) + 1;
        codes.dimension = d;
        int[] lengths = new int[e];
        if (in.sure(1) == 0) {
            boolean sparse = in.sure(1) == 1;
            for (int k = 0; k < e; k++) {
                if (!sparse || in.sure(1) == 1) {
                    lengths[k] = in.sure(3) + 1;
                }
            }
        } else {
            int l = in.sure(3) + 1;
            int k = 0;
            while (k < e) {
                refuseIf(l > 8);
                int count = in.sure(Integer.toBinaryString(e - k).length());
                refuseIf(count > e - k);
                for (int i = 0; i < count; i++) {
                    lengths[k++] = l;
                }
                l++;
            }
        }
        vectors(in, codes, d, e);
        words(codes, lengths);
        return codes;
    }

    private static void vectors(Source in, Codes codes, int d, int e) {
        int kind = in.sure(2);
        refuseIf(kind == 3);
        if (kind == 0) {
            return;
        }
        int min = in.sure(4) - 8;
        int step = in.sure(3);
        boolean sum = in.sure(1) == 1;
        int w = in.sure(2) + 1;
        int r = 1;
        while (Math.pow(r + 1, d) <= e) {
            r++;
        }
        int[] numbers = new int[kind == 1 ? r : e * d];
        for (int k = 0; k < numbers.length; k++) {
            numbers[k] = in.sure(w);
        }
        codes.vectors = new int[e][d];
        for (int k = 0; k < e; k++) {
            for (int i = 0; i < d; i++) {
                int place = kind == 1 ? k / (int) Math.pow(r, i) % r : k * d + i;
                codes.vectors[k][i] = min + step * numbers[place];
                if (sum && i > 0) {
                    codes.vectors[k][i] += codes.vectors[k][i - 1];
                }
            }
        }
    }

    private static void words(Codes codes, int[] lengths) {
        double sum = 0;
        int used = 0;
        for (int l : lengths) {
            sum += l == 0 ? 0 : Math.pow(2, -l);
            used += l == 0 ? 0 : 1;
        }
        refuseIf(sum != 1 && !(used == 1 && sum == 0.5));
        codes.words = new String[lengths.length];
        List<String> given = new ArrayList<>();
        for (int k = 0; k < lengths.length; k++) {
            for (int c = 0; lengths[k] > 0 && codes.words[k] == null; c++) {
                String digits = Integer.toBinaryString(c | 1 << lengths[k]).substring(1);
                boolean free = given.stream().noneMatch(g -> g.startsWith(digits) || digits.startsWith(g));
                codes.words[k] = free ? digits : null;
            }
            if (lengths[k] > 0) {
                given.add(codes.words[k]);
            }
        }
    }

    private int bookNumber(int number) {
        refuseIf(number >= books.size());
        return number;
    }

    private Plan setup(Source in) {
        refuseIf(channels == 0);
        Plan p = new Plan();
        p.g = in.sure(2);
        p.parts = new int[in.sure(2)];
        for (int k = 0; k < p.parts.length; k++) {
            p.parts[k] = in.sure(1);
        }
        int greatest = Arrays.stream(p.parts).max().orElse(-1);
        for (int k = 0; k <= greatest; k++) {
            int size = in.sure(2) + 1;
            boolean split = in.sure(1) == 1;
            int master = split ? bookNumber(in.sure(2)) : -1;
            int[] sub = new int[split ? 2 : 1];
            for (int i = 0; i < sub.length; i++) {
                sub[i] = bookNumber(in.sure(3) - 1);
            }
            p.classes.add(new PartClass(size, split, master, sub));
        }
        int r = in.sure(2);
        p.points.addAll(List.of(0, 1 << (r + 2)));
        for (int c : p.parts) {
            for (int k = 0; k < p.classes.get(c).size; k++) {
                int place = in.sure(r + 2);
                refuseIf(p.points.contains(place));
                p.points.add(place);
            }
        }
        p.mode = in.sure(2);
        refuseIf(p.mode == 3);
        p.begin = in.sure(5);
        p.end = in.sure(6);
        refuseIf(p.end < p.begin);
        p.partSize = in.sure(3) + 1;
        p.kinds = in.sure(1) + 1;
        p.kindsBook = bookNumber(in.sure(2));
        int[] has = new int[p.kinds];
        for (int k = 0; k < p.kinds; k++) {
            has[k] = in.sure(2);
        }
        p.passBook = new int[p.kinds][2];
        for (int k = 0; k < p.kinds; k++) {
            for (int pass = 0; pass < 2; pass++) {
                boolean there = (pass == 0 ? has[k] % 2 : has[k] / 2) == 1;
                p.passBook[k][pass] = there ? bookNumber(in.sure(2)) : -1;
                refuseIf(there && books.get(p.passBook[k][pass]).vectors == null);
                refuseIf(there && p.partSize % books.get(p.passBook[k][pass]).dimension != 0);
            }
        }
        p.joined = in.sure(1) == 1;
        refuseIf(p.joined && channels == 1);
        return p;
    }

    private void sound(Source in, Happening event) {
        refuseIf(plan == null);
        int shape = in.sure(1);
        if (shape == 1) {
            shape += 2 * in.sure(1);
            shape += 4 * in.sure(1);
        }
        int before = blockSize;
        blockSize = sizes[shape % 2];
        int width = blockSize / 2;
        curves = new int[channels][width];
        values = new int[channels][width];
        boolean[] used = new boolean[channels];
        for (int c = 0; c < channels; c++) {
            try {
                used[c] = in.sure(1) == 1;
                if (used[c]) {
                    curves[c] = curveOf(in, width);
                }
            } catch (Stop out) {
                used[c] = false;
            }
        }
        try {
            addValues(in, used, width);
        } catch (Stop out) {
            in.out = true;
        }
        if (plan.joined) {
            for (int x = 0; x < width; x++) {
                separate(x);
            }
        }
        marks = shape + (used[0] ? 8 : 0) + (channels > 1 && used[1] ? 16 : 0) + (in.out ? 32 : 0);
        samples += before == 0 ? 0 : before / 4 + blockSize / 4;
        if (event.closing && event.time != 65535 && event.time < samples) {
            samples = event.time;
        }
    }

    private void separate(int x) {
        int m = values[0][x];
        int a = values[1][x];
        int[] both;
        if (m > 0) {
            both = a > 0 ? new int[] {m, m - a} : new int[] {m + a, m};
        } else {
            both = a > 0 ? new int[] {m, m + a} : new int[] {m - a, m};
        }
        values[0][x] = both[0];
        values[1][x] = both[1];
    }

    private static int line(int x0, int y0, int x1, int y1, int x) {
        int q = Math.abs(y1 - y0) * (x - x0) / (x1 - x0);
        return y1 >= y0 ? y0 + q : y0 - q;
    }

    private int[] curveOf(Source in, int width) {
        int range = new int[] {32, 16, 12, 8}[plan.g];
        int bits = new int[] {5, 4, 4, 3}[plan.g];
        List<Integer> numbers = new ArrayList<>();
        numbers.add(Math.min(in.sure(bits), range - 1));
        numbers.add(Math.min(in.sure(bits), range - 1));
        for (int part : plan.parts) {
            PartClass c = plan.classes.get(part);
            int v = c.split ? in.entryOf(books.get(c.master)) : 0;
            for (int k = 0; k < c.size; k++) {
                int sub = c.sub[c.split ? v % 2 : 0];
                v = c.split ? v / 2 : v;
                numbers.add(sub < 0 ? 0 : in.entryOf(books.get(sub)));
            }
        }
        // By place: the heights of all points so far, and of those that are SET.
        TreeMap<Integer, Integer> heights = new TreeMap<>();
        TreeMap<Integer, Boolean> set = new TreeMap<>();
        for (int i = 0; i < numbers.size(); i++) {
            int place = plan.points.get(i);
            int v = numbers.get(i);
            int height = v;
            boolean isSet = true;
            if (i >= 2) {
                int left = heights.lowerKey(place);
                int right = heights.higherKey(place);
                int p = line(left, heights.get(left), right, heights.get(right), place);
                int d = range - p;
                isSet = v != 0;
                if (v == 0) {
                    height = p;
                } else if (v < 2 * Math.min(d, p)) {
                    height = v % 2 == 1 ? p - (v + 1) / 2 : p + v / 2;
                } else {
                    height = d > p ? v : range - 1 - v;
                }
                if (isSet) {
                    set.put(left, true);
                    set.put(right, true);
                }
            }
            heights.put(place, height);
            set.put(place, isSet);
        }
        set.values().removeIf(b -> !b);
        int factor = plan.g + 1;
        int[] curve = new int[width];
        for (int x = 0; x < width; x++) {
            int left = set.floorKey(x);
            Integer right = set.higherKey(x);
            int y0 = heights.get(left) * factor;
            curve[x] = right == null ? y0 : line(left, y0, right, heights.get(right) * factor, x);
        }
        return curve;
    }

    private void addValues(Source in, boolean[] used, int width) {
        boolean any = false;
        for (boolean u : used) {
            any |= u;
        }
        // Each row as the list of its cells, a cell as {channel, place}.
        List<List<int[]>> rows = new ArrayList<>();
        if (plan.mode == 2 && any) {
            List<int[]> row = new ArrayList<>();
            for (int c = 0; c < channels * width; c++) {
                row.add(new int[] {c % channels, c / channels});
            }
            rows.add(row);
        }
        for (int c = 0; c < channels && plan.mode != 2; c++) {
            if (used[c] || plan.joined && any) {
                List<int[]> row = new ArrayList<>();
                for (int x = 0; x < width; x++) {
                    row.add(new int[] {c, x});
                }
                rows.add(row);
            }
        }
        if (rows.isEmpty()) {
            return;
        }
        int cells = rows.get(0).size();
        int lo = Math.min(plan.begin, cells);
        int hi = Math.min(plan.end, cells);
        int parts = (hi - lo) / plan.partSize;
        Codes kindsBook = books.get(plan.kindsBook);
        int group = kindsBook.dimension;
        int[][] kind = new int[rows.size()][parts + group];
        for (int pass = 0; pass < 2; pass++) {
            for (int begin = 0; begin < parts; begin += group) {
                for (int r = 0; r < rows.size() && pass == 0; r++) {
                    int v = in.entryOf(kindsBook);
                    for (int k = group - 1; k >= 0; k--) {
                        kind[r][begin + k] = v % plan.kinds;
                        v /= plan.kinds;
                    }
                }
                for (int part = begin; part < begin + group && part < parts; part++) {
                    for (int r = 0; r < rows.size(); r++) {
                        int number = plan.passBook[kind[r][part]][pass];
                        int from = lo + part * plan.partSize;
                        if (number >= 0) {
                            addPart(in, books.get(number), rows.get(r).subList(from, from + plan.partSize));
                        }
                    }
                }
            }
        }
    }

    private void addPart(Source in, Codes codes, List<int[]> cells) {
        int d = codes.dimension;
        int count = plan.partSize / d;
        for (int j = 0; j < count; j++) {
            int[] vector = codes.vectors[in.entryOf(codes)];
            for (int i = 0; i < d; i++) {
                int[] cell = cells.get(plan.mode == 0 ? j + i * count : j * d + i);
                values[cell[0]][cell[1]] += vector[i];
            }
        }
    }

    int entry(int book, int entry) {
        if (book < 0 || book >= books.size() || entry < 0 || entry >= books.get(book).words.length) {
            return -1;
        }
        String word = books.get(book).words[entry];
        return word == null ? 0 : Integer.parseInt("1" + word, 2);
    }

    int block() {
        return blockSize == 0 ? -1 : marks;
    }

    private boolean there(int channel, int place) {
        return blockSize > 0 && channel >= 0 && channel < channels && place >= 0 && place < blockSize / 2;
    }

    int curve(int channel, int place) {
        return there(channel, place) ? curves[channel][place] : -1;
    }

    int value(int channel, int place) {
        return there(channel, place) ? values[channel][place] : 0;
    }

    int samples() {
        return samples;
    }
}
