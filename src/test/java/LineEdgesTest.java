import java.util.Arrays;
import java.util.Random;

/** Promise 7 and 2 LINES: each number of a stream on both sides of its bounds, each FAULT by its number and place. */
public final class LineEdgesTest {
    private static PictureCodingHouse house = new PictureCodingHouse();

    public static void main(String[] args) {
        codesByHand();
        nearAndRange();
        restartsWritten();
        oneComponentHasNoTurn();
        cutAnywhere();
        marks();
        marksInOrder();
        notes();
        segmentNumbers();
        frames();
        framesThatMayBe();
        extras();
        tables();
        restarts();
        scanNumbers();
        scanParts();
        scanEnds();
        filledBits();
        zeros();
        behindFull();
        restartMarks();
        readErrors();
        greatLowBits();
        moreComponents();
        behindAll();
        anyData();
        Checks.end();
    }

    // ---- what the checks share

    /** One house reads many files, so that nothing of one is left for the next. */
    private static PictureCodingHouse next() {
        if (house.told(0) > 280) {
            house = new PictureCodingHouse();
        }
        if (house.size(0, 3, 0) < 0) {
            house.picture(3, 2, 3);
            house.put(3, 0, 0, 2, 50);
        }
        return house;
    }

    private static void broken(String what, int[] file, int number, int place) {
        PictureCodingHouse h = next();
        Checks.load(h, 0, file);
        Checks.broken(what, h, number, place, () -> h.unline(0, 3));
        control();
    }

    private static void right(String what, int[] file, int components) {
        PictureCodingHouse h = next();
        Checks.load(h, 0, file);
        Checks.read(what, h, components, () -> h.unline(0, 4));
        control();
    }

    /** A stream that has no RESTART and no RESET of its own, but as many NOTES as may be, and a TABLE. */
    private static void control() {
        PictureCodingHouse h = next();
        LinesTest.Stream stream = begun(3, 5, 4, 1);
        for (int i = 0; i < 6; i++) {
            stream.mark(0xE0);
        }
        stream.table(0);
        stream.scan(0, new int[] {1}, 0);
        Checks.load(h, 1, stream.done());
        Checks.read("behind another one", h, 1, () -> h.unline(1, 2));
        int[][] due = new int[4][5];
        for (int y = 0; y < 4; y++) {
            for (int x = 0; x < 5; x++) {
                due[y][x] = 255 * stream.samples[0][y][x] / 7;
            }
        }
        Checks.samePicture("behind another one", h, 2, due);
    }

    private static LinesTest.Stream begun(int bits, int width, int height, int components) {
        int[][][] samples = new int[components][height][width];
        for (int c = 0; c < components; c++) {
            for (int y = 0; y < height; y++) {
                for (int x = 0; x < width; x++) {
                    samples[c][y][x] = (x * 37 + y * 91 + c * 13 + x * y * 5) % (1 << bits);
                }
            }
        }
        LinesTest.Stream stream = new LinesTest.Stream(samples);
        stream.bits = bits;
        stream.mark(0xD8);
        stream.frame();
        return stream;
    }

    private static int[] ended(LinesTest.Stream stream, int turn) {
        int n = stream.samples.length;
        int[] all = new int[n];
        for (int c = 0; c < n; c++) {
            all[c] = c;
        }
        if (turn > 0) {
            stream.scan(turn, null, all);
        }
        for (int c = 0; c < n && turn == 0; c++) {
            stream.scan(0, null, c);
        }
        return stream.done();
    }

    /** A stream of one component with a segment more before its scan. */
    private static int[] with(int bits, int code, int... segment) {
        LinesTest.Stream stream = begun(bits, 3, 2, 1);
        stream.mark(code, segment);
        return ended(stream, 0);
    }

    /** Where the segment is that is put in there. */
    private static int placeOfSegment() {
        return begun(8, 3, 2, 1).bytes.size();
    }

    private static void refusedSegment(String what, int number, int bits, int code, int... segment) {
        broken(what + Arrays.toString(segment), with(bits, code, segment), number, placeOfSegment());
    }

    private static int[] framed(int width, int height, int near, int restart, int... data) {
        LinesTest.Stream stream = new LinesTest.Stream(new int[height][width]);
        stream.near = near;
        stream.mark(0xD8);
        stream.frame();
        if (restart > 0) {
            stream.restarts(restart);
        }
        stream.scanHead(0, null, 0);
        return Checks.joined(Checks.bytes(stream.bytes), data);
    }

    private static final int[] END = {255, 0xD9};

    // ---- writing

    private static String dataOf(int v, int near) {
        PictureCodingHouse h = next();
        h.picture(0, 1, 1);
        h.put(0, 0, 0, 1, v);
        int n = h.lines(0, 1, 0, near, 0, 2);
        int start = 2 + 13 + 10;
        StringBuilder bits = new StringBuilder();
        for (int i = start; i < n - 2; i++) {
            bits.append(Checks.bits(h.byteAt(2, i), 8));
        }
        return bits.toString();
    }

    private static void sameData(String what, String due, int v, int near) {
        String filled = due + "0".repeat((8 - due.length() % 8) % 8);
        String got = dataOf(v, near);
        Checks.holds(what + ": got " + got + ", due is " + filled, got.equals(filled));
    }

    /** "if m by 2^k, rounded down, is less than 20": 19 bits 0, and 20 of them. A sample is foretold as 0, k is 2. */
    private static void codesByHand() {
        sameData("m 0", "100", 0, 0);
        sameData("m 2", "110", 1, 0);
        sameData("m 4", "0100", 2, 0);
        sameData("m 78", "0".repeat(19) + "1" + "10", 39, 0);
        sameData("m 80", "0".repeat(20) + "1" + Checks.bits(80, 9), 40, 0);
        // the greatest error that is not less by the RANGE, and the first one that is
        sameData("m 254", "0".repeat(20) + "1" + Checks.bits(254, 9), 127, 0);
        sameData("m 255", "0".repeat(20) + "1" + Checks.bits(255, 9), 128, 0);
        sameData("m 81", "0".repeat(20) + "1" + Checks.bits(81, 9), 256 - 41, 0);
        sameData("m 79", "0".repeat(19) + "1" + "11", 256 - 40, 0);
        sameData("m 1", "101", 255, 0);
    }

    /** "it and NEAR, by STEP, rounded down", and what is told then. */
    private static void nearAndRange() {
        int[][] cases = {{0, 1, 1}, {1, 1, 0}, {1, 2, 3}, {1, 4, 3}, {1, 5, 6}, {1, 255, 255}, {1, 254, 255},
            {2, 2, 0}, {2, 3, 5}, {2, 7, 5}, {2, 8, 10}, {2, 252, 250}, {2, 253, 255}, {3, 3, 0}, {3, 4, 7}, {3, 10, 7},
            {3, 11, 14}, {3, 255, 252}};
        for (int[] one : cases) {
            PictureCodingHouse h = next();
            h.picture(0, 1, 1);
            h.put(0, 0, 0, 1, one[1]);
            h.lines(0, 1, 0, one[0], 0, 2);
            Checks.same("unline", 1, h.unline(2, 1));
            Checks.same("NEAR " + one[0] + " of " + one[1], one[2], h.at(1, 0, 0));
            // below what was foretold: the first sample is 255 or what is nearest, the second one less
            h.picture(0, 2, 1);
            h.put(0, 0, 0, 1, 255);
            h.put(0, 1, 0, 1, 255 - one[1]);
            h.lines(0, 1, 0, one[0], 0, 2);
            Checks.same("unline", 1, h.unline(2, 1));
            Checks.holds("not farther than NEAR", Math.abs(h.at(1, 1, 0) - 255 + one[1]) <= one[0]);
        }
    }

    /** "behind each so many rows but the last ones: the MARK D0 and how many restarts there were, modulo 8". */
    private static void restartsWritten() {
        for (int height : new int[] {1, 2, 11, 12}) {
            for (int restart = 0; restart <= 12; restart++) {
                PictureCodingHouse h = next();
                h.picture(0, 1, height);
                int n = h.lines(0, 1, 0, 0, restart, 2);
                int due = restart == 0 ? 0 : (height - 1) / restart;
                int found = 0;
                for (int i = 25; i + 1 < n; i++) {
                    if (h.byteAt(2, i) == 255 && h.byteAt(2, i + 1) >= 0xD0 && h.byteAt(2, i + 1) <= 0xD7) {
                        Checks.same("restart " + found, 0xD0 + found % 8, h.byteAt(2, i + 1));
                        found++;
                    }
                }
                Checks.same("restarts of " + height + " rows by " + restart, due, found);
                Checks.same("its segment is there, if it is not 0", restart == 0 ? 0xDA : 0xDD, h.byteAt(2, 16));
                Checks.same("unline", 1, h.unline(2, 1));
            }
        }
    }

    /** "the TURN (0, if it has one component)", and a SCAN for each one by TURN 0. */
    private static void oneComponentHasNoTurn() {
        PictureCodingHouse h = next();
        for (int k = 0; k < 3; k++) {
            h.picture(k, 1, 1);
        }
        for (int n = 1; n <= 3; n++) {
            for (int turn = 0; turn <= 2; turn++) {
                int bytes = h.lines(0, n, turn, 0, 0, 2);
                int scans = 0;
                for (int i = 0; i + 1 < bytes; i++) {
                    if (h.byteAt(2, i) == 255 && h.byteAt(2, i + 1) == 0xDA) {
                        int parts = h.byteAt(2, i + 4);
                        Checks.same("parts", turn == 0 ? 1 : n, parts);
                        Checks.same("turn", n == 1 ? 0 : turn, h.byteAt(2, i + 6 + 2 * parts));
                        scans++;
                    }
                }
                Checks.same("scans", turn == 0 ? n : 1, scans);
            }
        }
    }

    // ---- reading

    /** "1: fewer bytes are left": wherever a stream is cut, the place is as many as there are. */
    private static void cutAnywhere() {
        LinesTest.Stream stream = begun(2, 3, 4, 2);
        stream.mark(0xFE, 1, 2, 3);
        stream.restarts(1);
        stream.mark(0xF8, 1, 9, 8);
        stream.reset = 9;
        stream.start = 8;
        stream.table(1);
        stream.scan(0, new int[] {0}, 0);
        stream.mark(0xE7, 255);
        stream.scan(0, new int[] {2}, 1);
        int[] whole = stream.done();
        right("whole", whole, 2);
        for (int n = 0; n < whole.length; n++) {
            broken("cut to " + n, Checks.first(whole, n), 1, n);
        }
    }

    private static void marks() {
        int[] whole = with(8, 0xE0, 1);
        int p = placeOfSegment();
        for (int code = 0; code < 256; code++) {
            boolean isNote = code >= 0xE0 && code <= 0xEF || code == 0xFE;
            int[] file = Checks.altered(whole, p + 1, code);
            if (isNote) {
                right("a note " + code, file, 1);
            } else if (code == 0xF7 || code == 0xD9) {
                broken("out of order " + code, file, 5, p);
            } else if (code == 0xF8) {
                broken("too short a segment", file, 3, p);
            } else if (code == 0xDD || code == 0xDA) {
                broken("a segment of another length", file, 3, p);
            } else {
                broken("none of them " + code, file, 2, p);
            }
        }
        for (int first : new int[] {0, 254, 127}) {
            broken("not 255 first", Checks.altered(whole, p, first), 2, p);
        }
        broken("the first one is another mark", Checks.altered(whole, 1, 0xE0), 2, 0);
        broken("the first one is the end", Checks.altered(whole, 1, 0xD9), 2, 0);
        broken("the first one is not 255", Checks.altered(whole, 0, 254), 2, 0);
        broken("the first one without a second byte", new int[] {254}, 1, 1);
    }

    private static void marksInOrder() {
        int[] whole = with(8, 0xE0, 1);
        int p = placeOfSegment();
        LinesTest.Stream before = new LinesTest.Stream(new int[2][2]);
        before.mark(0xD8);
        before.mark(0xE0, 7);
        int[] note = Checks.bytes(before.bytes);
        int[] rest = Arrays.copyOfRange(with(8, 0xE0, 1), 2, whole.length);
        right("a note before F7", Checks.joined(note, rest), 1);
        for (int code : new int[] {0xF8, 0xDD, 0xDA, 0xD9}) {
            broken("before F7, " + code, Checks.joined(note, new int[] {255, code, 0, 4, 0, 0}, rest), 5, note.length);
        }
        int[] frame = Arrays.copyOfRange(whole, 2, p);
        broken("a second F7", Checks.joined(Checks.first(whole, p), frame, Arrays.copyOfRange(whole, p, whole.length)),
                5, p);
        broken("a second F7, of a wrong number", Checks.joined(Checks.first(whole, p), new int[] {255, 0xF7, 0, 0}), 5, p);
        LinesTest.Stream stream = begun(8, 2, 2, 2);
        stream.scan(0, null, 1);
        int q = stream.bytes.size();
        stream.mark(0xE0, 1);
        stream.scan(0, null, 0);
        int[] scans = stream.done();
        right("a scan and a note behind a scan", scans, 2);
        for (int code : new int[] {0xF7, 0xF8, 0xDD, 0xD9}) {
            broken("behind a scan, " + code, Checks.altered(scans, q + 1, code), 5, q);
        }
        broken("D9 when each component but one had a scan", Checks.joined(Checks.first(scans, q), END), 5, q);
        int end = scans.length - 2;
        for (int code : new int[] {0xF7, 0xF8, 0xDD}) {
            broken("behind all scans, " + code, Checks.joined(Checks.first(scans, end), new int[] {255, code, 0, 4, 0, 0},
                    END), 5, end);
        }
        broken("a scan more behind all scans", Checks.joined(Checks.first(scans, end),
                new int[] {255, 0xDA, 0, 8, 1, 1, 0, 0, 0, 0}, END), 5, end);
    }

    private static void notes() {
        for (int many = 1; many <= 8; many++) {
            LinesTest.Stream stream = begun(8, 2, 2, 1);
            for (int i = 0; i < many; i++) {
                stream.mark(i % 2 == 0 ? 0xE0 + i : 0xFE, new int[i % 2 == 0 ? 30 : 0]);
            }
            int[] file = ended(stream, 0);
            if (many <= 6) {
                right(many + " notes", file, 1);
            } else {
                broken(many + " notes", file, 4, stream.places.get(8));
            }
        }
        for (int bytes = 29; bytes <= 32; bytes++) {
            int[] file = with(8, 0xEF, new int[bytes]);
            if (bytes <= 30) {
                right("a note of " + bytes, file, 1);
            } else {
                broken("a note of " + bytes, file, 4, placeOfSegment());
            }
        }
        broken("a note of 256 bytes", with(8, 0xE1, new int[256]), 4, placeOfSegment());
        right("a note of none", with(8, 0xE1), 1);
        LinesTest.Stream late = begun(8, 2, 2, 1);
        late.scan(0, null, 0);
        for (int i = 0; i < 7; i++) {
            late.mark(0xE0);
        }
        broken("notes behind a scan are counted, too", late.done(), 4, late.places.get(9));
    }

    /** "1: fewer than four bytes from p on; 3: its number is below 2; 1: fewer bytes are left than it says". */
    private static void segmentNumbers() {
        int[] head = Checks.bytes(begun(8, 2, 2, 1).bytes);
        int p = head.length;
        for (int code : new int[] {0xE0, 0xFE, 0xF8, 0xDD, 0xDA}) {
            broken("no number", Checks.joined(head, new int[] {255, code}), 1, p + 2);
            broken("half a number", Checks.joined(head, new int[] {255, code, 0}), 1, p + 3);
            broken("number 0", Checks.joined(head, new int[] {255, code, 0, 0}), 3, p);
            broken("number 1", Checks.joined(head, new int[] {255, code, 0, 1, 0, 0}), 3, p);
            broken("one byte is not there", Checks.joined(head, new int[] {255, code, 0, 7, 9, 9, 9, 9}), 1, p + 8);
            broken("much is not there", Checks.joined(head, new int[] {255, code, 255, 255, 9, 9}), 1, p + 6);
        }
        broken("number 2 may be, of a note: a mark is wanted then", Checks.joined(head, new int[] {255, 0xE0, 0, 2}), 1,
                p + 4);
        int[] frame = {255, 0xD8, 255, 0xF7, 0, 11, 99, 0, 99, 0, 99, 9, 9, 9};
        broken("F7 is cut before its numbers are looked at", frame, 1, 14);
        broken("F7 of number 1", Checks.altered(frame, 5, 1), 3, 2);
    }

    private static void refusedFrame(int number, int... segment) {
        LinesTest.Stream stream = new LinesTest.Stream(new int[1][1]);
        stream.mark(0xD8);
        stream.mark(0xF7, segment);
        stream.scan(0, null, 0);
        broken("frame " + Arrays.toString(segment), stream.done(), number, 2);
    }

    private static void frames() {
        int[] good = {8, 0, 1, 0, 1, 1, 1, 17, 0};
        for (int n = 0; n < 6; n++) {
            refusedFrame(3, Checks.first(good, n));
        }
        for (int n : new int[] {6, 7, 8}) {
            refusedFrame(3, Checks.first(good, n));
        }
        refusedFrame(3, Checks.joined(good, new int[] {0}));
        refusedFrame(3, Checks.joined(good, new int[] {2, 17, 0}));
        refusedFrame(3, Checks.altered(good, 5, 2));
        refusedFrame(3, Checks.altered(good, 5, 0));
        refusedFrame(3, Checks.altered(Checks.altered(good, 5, 2), 0, 9));
        refusedFrame(4, Checks.first(Checks.altered(good, 5, 0), 6));
        refusedFrame(4, 8, 0, 1, 0, 1, 5, 1, 17, 0, 2, 17, 0, 3, 17, 0, 4, 17, 0, 5, 17, 0);
        for (int bits : new int[] {0, 1, 9, 16, 255}) {
            refusedFrame(4, Checks.altered(good, 0, bits));
        }
        for (int side : new int[] {1, 3}) {
            refusedFrame(4, Checks.altered(good, side, 1));
            refusedFrame(4, Checks.altered(good, side + 1, 0));
            refusedFrame(4, Checks.altered(good, side + 1, 13));
        }
        for (int id : new int[] {0, 2, 255}) {
            refusedFrame(4, Checks.altered(good, 6, id));
        }
        refusedFrame(4, Checks.altered(good, 7, 16));
        refusedFrame(4, Checks.altered(good, 7, 18));
        refusedFrame(4, Checks.altered(good, 8, 1));
        int[] two = {8, 0, 1, 0, 1, 2, 1, 17, 0, 2, 17, 0};
        refusedFrame(4, Checks.altered(Checks.altered(two, 6, 2), 9, 1));
        refusedFrame(4, Checks.altered(two, 9, 3));
        refusedFrame(4, Checks.altered(two, 10, 34));
        refusedFrame(4, Checks.altered(two, 11, 1));
    }

    private static void framesThatMayBe() {
        for (int bits = 2; bits <= 8; bits++) {
            for (int components = 1; components <= 4; components++) {
                for (int side : new int[] {1, 12}) {
                    LinesTest.Stream stream = begun(bits, side, 13 - side, components);
                    right("BITS " + bits, ended(stream, components == 1 ? 0 : components % 3), components);
                    Checks.same("width", side, house.size(0, 4, 0));
                    Checks.same("height", 13 - side, house.size(0, 4, 1));
                }
            }
        }
    }

    private static void extras() {
        refusedSegment("below 3", 3, 8, 0xF8);
        for (int sort : new int[] {0, 3, 255}) {
            refusedSegment("neither 1 nor 2", 4, 8, 0xF8, sort);
            refusedSegment("neither 1 nor 2", 4, 8, 0xF8, sort, 5, 5);
        }
        refusedSegment("1, number 3", 3, 8, 0xF8, 1);
        refusedSegment("1, number 4", 3, 8, 0xF8, 1, 64);
        refusedSegment("1, number 6", 3, 8, 0xF8, 1, 64, 4, 0);
        refusedSegment("1, number 6, before RESET", 3, 8, 0xF8, 1, 0, 0, 0);
        refusedSegment("RESET 2", 4, 8, 0xF8, 1, 2, 4);
        refusedSegment("RESET 0", 4, 8, 0xF8, 1, 0, 4);
        refusedSegment("START 0", 4, 8, 0xF8, 1, 64, 0);
        for (int reset : new int[] {3, 255}) {
            for (int start : new int[] {1, 255}) {
                LinesTest.Stream stream = begun(8, 12, 3, 1);
                stream.reset = reset;
                stream.start = start;
                stream.mark(0xF8, 1, reset, start);
                right("RESET " + reset + ", START " + start, ended(stream, 0), 1);
                Checks.samePicture("RESET " + reset, house, 4, stream.samples[0]);
            }
        }
    }

    /** "F8: 2, a component and 1, 2, a TABLE of as many wide numbers as there are samples 0 .. TOP". */
    private static void tables() {
        for (int bits = 2; bits <= 8; bits++) {
            int[] table = new int[3 + 2 * (1 << bits)];
            table[0] = 2;
            table[1] = 1;
            table[2] = 2;
            right("a table, BITS " + bits, with(bits, 0xF8, table), 1);
            refusedSegment("one less", 3, bits, 0xF8, Checks.first(table, table.length - 1));
            refusedSegment("a number less", 3, bits, 0xF8, Checks.first(table, table.length - 2));
            refusedSegment("one more", 3, bits, 0xF8, Checks.joined(table, new int[] {0}));
            refusedSegment("no component 0", 6, bits, 0xF8, Checks.altered(table, 1, 0));
            refusedSegment("no component 2", 6, bits, 0xF8, Checks.altered(table, 1, 2));
            refusedSegment("no component, before the 2", 6, bits, 0xF8,
                    Checks.altered(Checks.altered(table, 1, 2), 2, 9));
            refusedSegment("the 2", 4, bits, 0xF8, Checks.altered(table, 2, 1));
            refusedSegment("the 2", 4, bits, 0xF8, Checks.altered(table, 2, 3));
        }
        refusedSegment("number 3", 3, 2, 0xF8, 2);
        LinesTest.Stream stream = begun(2, 2, 2, 2);
        stream.table(0);
        stream.table(1);
        int p = stream.bytes.size();
        stream.table(1);
        int[] file = ended(stream, 2);
        broken("it has a table", file, 5, p);
        broken("it has a table, before the 2", Checks.altered(file, p + 6, 7), 5, p);
        stream = begun(2, 2, 2, 4);
        for (int c = 3; c >= 0; c--) {
            stream.table(c);
        }
        stream.scan(2, new int[] {1, 0, 3, 4}, 0, 1, 2, 3);
        right("a table for each of four", stream.done(), 4);
    }

    private static void restarts() {
        refusedSegment("number 2", 3, 8, 0xDD);
        refusedSegment("number 3", 3, 8, 0xDD, 0);
        refusedSegment("number 5", 3, 8, 0xDD, 0, 1, 0);
        refusedSegment("number 5, before its value", 3, 8, 0xDD, 0, 13, 0);
        refusedSegment("RESTART 13", 4, 8, 0xDD, 0, 13);
        refusedSegment("RESTART 256", 4, 8, 0xDD, 1, 0);
        right("RESTART 12", with(8, 0xDD, 0, 12), 1);
        right("RESTART 0", with(8, 0xDD, 0, 0), 1);
        LinesTest.Stream stream = begun(8, 3, 5, 1);
        stream.restarts(12);
        stream.restarts(0);
        stream.restarts(2);
        right("the last one counts", ended(stream, 0), 1);
        Checks.samePicture("the last one counts", house, 4, stream.samples[0]);
        stream = begun(8, 3, 5, 1);
        stream.restarts(1);
        stream.restarts(0);
        right("the last one counts, if it is 0", ended(stream, 0), 1);
    }

    /** A stream of some components whose scan head is this, instead of the right one. */
    private static void refusedScan(String what, int number, int components, int... segment) {
        LinesTest.Stream stream = begun(2, 2, 2, components);
        int p = stream.bytes.size();
        stream.mark(0xDA, segment);
        broken(what + Arrays.toString(segment), Checks.joined(stream.done(), new int[60]), number, p);
    }

    private static void scanNumbers() {
        refusedScan("number 2", 3, 1);
        refusedScan("number 3", 3, 1, 1);
        refusedScan("number 7", 3, 1, 1, 1, 0, 0, 0);
        refusedScan("number 9", 3, 1, 1, 1, 0, 0, 0, 0, 0);
        refusedScan("number 9, before its numbers", 3, 1, 9, 9, 9, 9, 9, 9, 9);
        refusedScan("of two, number 8", 3, 2, 2, 1, 0, 0, 1, 0);
        refusedScan("none", 4, 1, 0, 0, 0, 0);
        refusedScan("two of one", 4, 1, 2, 1, 0, 2, 0, 0, 1, 0);
        refusedScan("two of three", 4, 3, 2, 1, 0, 2, 0, 0, 1, 0);
        refusedScan("two of three, before its components", 4, 3, 2, 9, 0, 9, 0, 0, 1, 0);
        refusedScan("three of two", 4, 2, 3, 1, 0, 2, 0, 3, 0, 0, 1, 0);
    }

    private static void scanParts() {
        refusedScan("component 0", 6, 1, 1, 0, 0, 0, 0, 0);
        refusedScan("component 2 of 1", 6, 1, 1, 2, 0, 0, 0, 0);
        refusedScan("component 5 of 4", 6, 4, 1, 5, 0, 0, 0, 0);
        refusedScan("none, before its table", 6, 1, 1, 2, 9, 9, 9, 9);
        refusedScan("of several, not in order", 4, 2, 2, 2, 0, 1, 0, 0, 1, 0);
        refusedScan("of several, twice the same", 4, 2, 2, 1, 0, 1, 0, 0, 1, 0);
        refusedScan("of several, one that is none", 6, 2, 2, 1, 0, 3, 0, 0, 1, 0);
        refusedScan("the first one's table before the second one", 4, 2, 2, 1, 2, 3, 0, 0, 1, 0);
        refusedScan("a table that it has not", 4, 1, 1, 1, 1, 0, 0, 0);
        refusedScan("a table of another", 4, 2, 1, 1, 2, 0, 0, 0);
        LinesTest.Stream stream = begun(2, 2, 2, 2);
        stream.table(1);
        int p = stream.bytes.size();
        stream.mark(0xDA, 1, 1, 2, 0, 0, 0);
        broken("a table that another one has", stream.done(), 4, p);
        stream.bytes.set(p + 5, 2);
        stream.bytes.set(p + 6, 1);
        broken("not its own", Checks.bytes(stream.bytes), 4, p);
        for (int table : new int[] {0, 2}) {
            stream = begun(2, 2, 2, 2);
            stream.table(1);
            stream.scan(0, new int[] {table}, 1);
            stream.scan(0, null, 0);
            right("none or its own", stream.done(), 2);
        }
        for (int second : new int[] {0, 1}) {
            stream = begun(2, 2, 2, 2);
            stream.scan(0, null, second);
            p = stream.bytes.size();
            stream.mark(0xDA, 1, second + 1, 9, 0, 0, 0);
            broken("it had a scan, before its table", Checks.joined(stream.done(), new int[9]), 5, p);
            stream.bytes.subList(p, stream.bytes.size()).clear();
            stream.mark(0xDA, 2, 1, 0, 2, 0, 0, 1, 0);
            broken("one of all had a scan", Checks.joined(stream.done(), new int[9]), 5, p);
            stream.bytes.subList(p, stream.bytes.size()).clear();
            stream.mark(0xDA, 2, 2, 0, 1, 0, 0, 1, 0);
            broken("order is looked at before that", Checks.joined(stream.done(), new int[9]), 4, p);
        }
    }

    private static void scanEnds() {
        refusedScan("NEAR 4", 4, 1, 1, 1, 0, 4, 0, 0);
        refusedScan("TURN 1 of one", 4, 1, 1, 1, 0, 0, 1, 0);
        refusedScan("TURN 2 of one of two", 4, 2, 1, 1, 0, 0, 2, 0);
        refusedScan("TURN 0 of two", 4, 2, 2, 1, 0, 2, 0, 0, 0, 0);
        refusedScan("TURN 3 of two", 4, 2, 2, 1, 0, 2, 0, 0, 3, 0);
        refusedScan("the last byte", 4, 1, 1, 1, 0, 0, 0, 1);
        refusedScan("the last byte", 4, 2, 2, 1, 0, 2, 0, 0, 1, 255);
        for (int near = 0; near <= 3; near++) {
            for (int turn = 0; turn <= 2; turn++) {
                LinesTest.Stream stream = begun(8, 4, 3, 2);
                stream.near = near;
                right("NEAR " + near + " TURN " + turn, ended(stream, turn), 2);
                Checks.samePicture("NEAR " + near, house, 4, stream.told[0]);
                Checks.samePicture("NEAR " + near, house, 5, stream.told[1]);
            }
        }
    }

    // ---- data

    /** "a bit that fills and is not 0": three bits tell the sample, five fill. */
    private static void filledBits() {
        int start = framed(1, 1, 0, 0).length;
        right("filled with 0", framed(1, 1, 0, 0, 0b10000000, 255, 0xD9), 1);
        for (int bit = 0; bit < 5; bit++) {
            broken("fill bit " + bit, framed(1, 1, 0, 0, 0b10000000 | 1 << bit, 255, 0xD9), 7, start);
        }
        // 8 bits: 100 100, then 10: k is 1 for the third, none fill
        right("none fill", framed(3, 1, 0, 0, 0b10010010, 255, 0xD9), 1);
        right("two bytes", framed(4, 1, 0, 0, 0b10010010, 0b10000000, 255, 0xD9), 1);
        broken("in the second byte", framed(4, 1, 0, 0, 0b10010010, 0b10000001, 255, 0xD9), 7, start + 1);
        broken("at a restart", framed(1, 2, 0, 1, 0b10000001, 255, 0xD0, 128, 255, 0xD9), 7, start + 6);
    }

    /** "the 21st bit 0 of a sample", at the byte that has it. */
    private static void zeros() {
        int start = framed(1, 1, 0, 0).length;
        // 20 bits 0, a 1, and m 0 in nine bits
        right("20 bits 0", framed(1, 1, 0, 0, 0, 0, 0b00001000, 0, 255, 0xD9), 1);
        broken("21 bits 0", framed(1, 1, 0, 0, 0, 0, 0b00000100, 0, 255, 0xD9), 7, start + 2);
        right("19 bits 0", framed(1, 1, 0, 0, 0, 0, 0b00010000, 255, 0xD9), 1);
        // the first sample takes four bits, 0100; then the 21st bit is the first one of a byte
        broken("in the next byte", framed(2, 1, 0, 0, 0b01000000, 0, 0, 0b01111111, 255, 255, 0xD9), 7, start + 3);
        right("a 1 in the next byte", framed(2, 1, 0, 0, 0b01000000, 0, 0, 0b10000000, 0, 255, 0xD9), 1);
        broken("no byte for the 21st bit", framed(2, 1, 0, 0, 0b01000000, 0, 0), 1, start + 3);
        broken("no byte for the nine bits", framed(2, 1, 0, 0, 0b01000000, 0, 0, 0b10000000), 1, start + 4);
    }

    /** "a byte behind a 255 begins with a 0": 127 may be, 128 may not. */
    private static void behindFull() {
        int start = framed(3, 1, 0, 0).length;
        // 111 111 for two samples of m 3, then 11 and one bit behind the 0
        broken("128", framed(3, 1, 0, 0, 255, 128, 255, 0xD9), 7, start + 1);
        broken("255", framed(3, 1, 0, 0, 255, 255, 255, 0xD9), 7, start + 1);
        broken("127 is looked at for what fills", framed(3, 1, 0, 0, 255, 127, 255, 0xD9), 7, start + 1);
        right("64", framed(3, 1, 0, 0, 255, 64, 255, 0xD9), 1);
        right("0", framed(3, 1, 0, 0, 255, 0, 255, 0xD9), 1);
        LinesTest.Stream stream = new LinesTest.Stream(new int[1][1]);
        stream.mark(0xD8);
        stream.frame();
        stream.mark(0xF8, 1, 3, 128);
        stream.scanHead(0, null, 0);
        int[] head = Checks.bytes(stream.bytes);
        // k is 7: eight bits tell the sample, and the byte is 255
        right("0 behind 255 at the end", Checks.joined(head, new int[] {255, 0}, END), 1);
        for (int behind : new int[] {1, 64, 127, 128, 255}) {
            broken("behind 255 at the end", Checks.joined(head, new int[] {255, behind}, END), 7, head.length + 1);
        }
        broken("nothing behind 255 at the end", Checks.joined(head, new int[] {255}), 1, head.length + 1);
        right("254 at the end", Checks.joined(head, new int[] {254}, END), 1);
    }

    /** "Where a restart must stand: 1, or 8 (at it): another one", modulo 8. */
    private static void restartMarks() {
        int start = framed(1, 12, 0, 1).length;
        int[] data = new int[12 * 3 + 1];
        for (int i = 0; i < 12; i++) {
            data[3 * i] = 128;
            data[3 * i + 1] = 255;
            data[3 * i + 2] = i < 11 ? 0xD0 + i % 8 : 0xD9;
        }
        data = Checks.first(data, 36);
        right("eleven restarts", framed(1, 12, 0, 1, data), 1);
        for (int i = 0; i < 11; i++) {
            int place = start + 3 * i + 1;
            broken("the next one", framed(1, 12, 0, 1, Checks.altered(data, 3 * i + 2, 0xD0 + (i + 1) % 8)), 8, place);
            broken("the one before", framed(1, 12, 0, 1, Checks.altered(data, 3 * i + 2, 0xD0 + (i + 7) % 8)), 8, place);
            broken("no mark", framed(1, 12, 0, 1, Checks.altered(data, 3 * i + 1, 254)), 8, place);
            broken("half a mark", framed(1, 12, 0, 1, Checks.first(data, 3 * i + 2)), 1, place + 1);
            broken("none", framed(1, 12, 0, 1, Checks.first(data, 3 * i + 1)), 1, place);
        }
        broken("D8 is not the ninth", framed(1, 12, 0, 1, Checks.altered(data, 26, 0xD8)), 8, start + 25);
        broken("a restart behind the last row", framed(1, 1, 0, 1, 128, 255, 0xD0, 255, 0xD9), 2,
                framed(1, 1, 0, 1).length + 1);
        broken("one restart less than rows", framed(1, 2, 0, 1, 128, 255, 0xD9), 8, framed(1, 2, 0, 1).length + 1);
        right("by 2, of 2 rows", framed(1, 2, 0, 2, 0b10010000, 255, 0xD9), 1);
        right("by 2, of 3 rows", framed(1, 3, 0, 2, 0b10010000, 255, 0xD0, 128, 255, 0xD9), 1);
    }

    /** The second sample of two, of BITS 2 (TOP 3), NEAR 2 (STEP 5, RANGE 2), the first one being told as it is. */
    private static int second(int firstM, int secondM) {
        LinesTest.Stream stream = new LinesTest.Stream(new int[1][2]);
        stream.bits = 2;
        stream.near = 2;
        stream.mark(0xD8);
        stream.frame();
        stream.scanHead(0, null, 0);
        // k is 2, then 1 or 2 by how great the first error is
        int error = (firstM + 1) / 2;
        int k = 2 << 1 < 4 + error ? 2 : 1;
        String bits = "0".repeat(firstM >> 2) + "1" + Checks.bits(firstM, 2) + "0".repeat(secondM >> k) + "1"
                + Checks.bits(secondM, k);
        right("errors", Checks.joined(Checks.bytes(stream.bytes), Checks.packed(bits), END), 1);
        return house.at(4, 1, 0);
    }

    /** "if that is below -NEAR, STEP times RANGE more, if above TOP + NEAR, so much less; then brought to 0 .. TOP". */
    private static void readErrors() {
        // an error of 1: 5, which is TOP + NEAR, and brought to 3
        Checks.same("TOP and NEAR", 255, second(2, 0));
        // 3 less 5 is -2, which is -NEAR, and brought to 0
        Checks.same("-NEAR", 0, second(2, 1));
        // 3 and 5 are 8, above TOP + NEAR: 10 less is -2
        Checks.same("above TOP and NEAR", 0, second(2, 2));
        // 0 less 5 is -5, below -NEAR: 10 more is 5
        Checks.same("below -NEAR", 255, second(0, 1));
        Checks.same("far below", 0, second(0, 3));
        Checks.same("far above", 0, second(0, 4));
    }

    /** "the least from 0 for which N 2^k is not below A (12 at most)". */
    private static void greatLowBits() {
        LinesTest.Stream stream = new LinesTest.Stream(new int[1][5]);
        stream.mark(0xD8);
        stream.frame();
        stream.mark(0xF8, 1, 255, 255);
        stream.scanHead(0, null, 0);
        // A 255, N 1: k 8; error 2559: A 2814, N 2: k 11; error 20479: A 23293, N 3: k 13, but 12 at most;
        // error 0: A 23293, N 4: k 13, so 12 again; N 5: 5 times 4096 is below 23293, too
        String bits = "0".repeat(19) + "1" + Checks.bits(254, 8) + "0".repeat(19) + "1" + Checks.bits(2046, 11)
                + "1" + Checks.bits(0, 12) + "1" + Checks.bits(2, 12) + "1" + Checks.bits(3, 12);
        right("k 12 at most", Checks.joined(Checks.bytes(stream.bytes), stuffed(bits), END), 1);
        // 2559 is above 255: 256 less is 2303, brought to 255; then 255 and 20479, likewise; then 255, 255 and 1 less 256
        Checks.samePicture("k 12 at most", house, 4, new int[][] {{255, 255, 255, 0, 254}});
    }

    /** Bytes of bits, with a 0 at the beginning of one behind a 255, and one of 0 behind a last one. */
    private static int[] stuffed(String bits) {
        LinesTest.Stream stream = new LinesTest.Stream(new int[1][1]);
        stream.data = new StringBuilder();
        stream.put(bits);
        stream.flush();
        return Checks.bytes(stream.bytes);
    }

    // ---- behind all

    /** "FAULT 20 (place 0): more components than there are pictures from the one on that is named". */
    private static void moreComponents() {
        for (int n = 1; n <= 4; n++) {
            int components = n;
            PictureCodingHouse h = next();
            LinesTest.Stream stream = begun(5, 3, 2, n);
            Checks.load(h, 0, ended(stream, n > 1 ? 1 : 0));
            Checks.read("just as many", h, n, () -> h.unline(0, 8 - components));
            for (int k = 9 - n; k < 8; k++) {
                int from = k;
                Checks.broken("one less", h, 20, 0, () -> h.unline(0, from));
            }
            for (int c = 0; c < n; c++) {
                int[][] due = new int[2][3];
                for (int y = 0; y < 2; y++) {
                    for (int x = 0; x < 3; x++) {
                        due[y][x] = 255 * stream.samples[c][y][x] / 31;
                    }
                }
                Checks.samePicture("component " + c, h, 8 - n + c, due);
                Checks.same("wholly inside", 6, h.size(0, 8 - n + c, 2));
            }
        }
    }

    /** "Behind D9: 9 (the place behind it), if there are bytes", before FAULT 20. */
    private static void behindAll() {
        int[] whole = ended(begun(8, 2, 2, 2), 1);
        for (int[] more : new int[][] {{0}, {255}, {255, 0xD8}, new int[99]}) {
            broken("more bytes", Checks.joined(whole, more), 9, whole.length);
        }
        PictureCodingHouse h = next();
        Checks.load(h, 0, Checks.joined(whole, new int[] {0}));
        Checks.broken("more bytes, and too many components", h, 9, whole.length, () -> h.unline(0, 7));
        Checks.load(h, 0, whole);
        Checks.broken("too many components", h, 20, 0, () -> h.unline(0, 7));
    }

    // ---- any data, by the second reading of the document

    private static void anyData() {
        Random random = new Random(77);
        int[] seen = new int[10];
        for (int run = 0; run < 3000; run++) {
            int bits = 2 + random.nextInt(7);
            int n = 1 + random.nextInt(4);
            LinesTest.Stream stream = begun(bits, 1 + random.nextInt(6), 1 + random.nextInt(6), n);
            stream.near = random.nextInt(4);
            stream.reset = random.nextBoolean() ? 64 : 3 + random.nextInt(6);
            stream.start = random.nextBoolean() ? 4 : 1 + random.nextInt(255);
            stream.mark(0xF8, 1, stream.reset, stream.start);
            stream.restarts(random.nextInt(4));
            int turn = n == 1 ? 0 : 1 + random.nextInt(2);
            int[] all = new int[n];
            for (int c = 0; c < n; c++) {
                all[c] = c;
            }
            stream.scan(turn, null, all);
            int[] file = stream.done();
            int from = stream.places.get(stream.places.size() - 2) + 4 + 4 + 2 * n;
            for (int i = random.nextInt(5); i > 0; i--) {
                int at = from + random.nextInt(file.length - 2 - from);
                file[at] = random.nextInt(3) == 0 ? random.nextBoolean() ? 255 : 0 : random.nextInt(256);
            }
            if (random.nextInt(4) == 0) {
                file = Checks.first(file, from + random.nextInt(file.length - from));
            }
            SecondReadingTest.LineData reader = new SecondReadingTest.LineData(file, from);
            reader.top = (1 << bits) - 1;
            reader.near = stream.near;
            reader.reset = stream.reset;
            reader.start = stream.start;
            PictureCodingHouse h = new PictureCodingHouse();
            Checks.load(h, 0, file);
            int answer = h.unline(0, 8 - n);
            try {
                int[][][] told = reader.scan(stream.width, stream.height, n, turn, stream.restart);
                if (reader.place != file.length - 2) {
                    Checks.holds("data ends before or behind", answer < 0);
                    continue;
                }
                Checks.same("any data " + run, n, answer);
                for (int c = 0; c < n && answer == n; c++) {
                    for (int y = 0; y < stream.height; y++) {
                        for (int x = 0; x < stream.width; x++) {
                            Checks.same("any data", 255 * told[c][y][x] / reader.top, h.at(8 - n + c, x, y));
                        }
                    }
                }
                seen[0]++;
            } catch (SecondReadingTest.Fault met) {
                seen[met.number]++;
                Checks.sameFault("any data " + run, h, answer, met.number, met.place);
            }
        }
        Checks.holds("all ends were seen " + Arrays.toString(seen), seen[0] > 99 && seen[1] > 20 && seen[7] > 99
                && seen[8] > 20);
    }
}
