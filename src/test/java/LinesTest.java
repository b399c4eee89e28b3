import java.util.ArrayList;
import java.util.List;
import java.util.Random;

/** Promise 7: lines and unline. */
public final class LinesTest {
    public static void main(String[] args) {
        wrongCalls();
        byHand();
        sameAsReference();
        fullAtTheEnd();
        readMore();
        faultsOfMarks();
        faultsOfSegments();
        faultsOfData();
        anyBytes();
        Checks.end();
    }

    /** A stream that is written piece by piece, plainly as the document tells it. */
    static final class Stream {
        final List<Integer> bytes = new ArrayList<>();
        // where each MARK is, but for those of restarts
        final List<Integer> places = new ArrayList<>();
        int bits = 8;
        int width;
        int height;
        int reset = 64;
        int start = 4;
        int restart = 0;
        int near = 0;
        int[][][] samples;
        int[][][] told;
        int[] sum;
        int[] number;
        StringBuilder data;
        int firstRow;

        Stream(int[][]... components) {
            samples = components;
            height = components[0].length;
            width = components[0][0].length;
            told = new int[components.length][height][width];
            sum = new int[components.length];
            number = new int[components.length];
        }

        void mark(int code, int... segment) {
            places.add(bytes.size());
            bytes.add(255);
            bytes.add(code);
            if (segment.length > 0 || code != 0xD8 && code != 0xD9) {
                Checks.addNumber(bytes, segment.length + 2, 2);
                for (int b : segment) {
                    bytes.add(b);
                }
            }
        }

        void frame() {
            int[] segment = new int[6 + 3 * samples.length];
            int[] head = {bits, 0, height, 0, width, samples.length};
            System.arraycopy(head, 0, segment, 0, 6);
            for (int c = 0; c < samples.length; c++) {
                segment[6 + 3 * c] = c + 1;
                segment[7 + 3 * c] = 17;
            }
            mark(0xF7, segment);
        }

        void restarts(int rows) {
            restart = rows;
            mark(0xDD, 0, rows);
        }

        void table(int c) {
            int[] segment = new int[3 + 2 * (1 << bits)];
            segment[0] = 2;
            segment[1] = c + 1;
            segment[2] = 2;
            mark(0xF8, segment);
        }

        void scanHead(int turn, int[] tables, int... parts) {
            int[] segment = new int[4 + 2 * parts.length];
            segment[0] = parts.length;
            for (int i = 0; i < parts.length; i++) {
                segment[1 + 2 * i] = parts[i] + 1;
                segment[2 + 2 * i] = tables == null ? 0 : tables[i];
            }
            segment[1 + 2 * parts.length] = near;
            segment[2 + 2 * parts.length] = turn;
            mark(0xDA, segment);
        }

        void scan(int turn, int[] tables, int... parts) {
            scanHead(turn, tables, parts);
            data = new StringBuilder();
            firstRow = 0;
            int restarts = 0;
            begin();
            for (int y = 0; y < height; y++) {
                if (turn == 2) {
                    for (int x = 0; x < width; x++) {
                        for (int c : parts) {
                            code(c, x, y);
                        }
                    }
                } else {
                    for (int c : parts) {
                        for (int x = 0; x < width; x++) {
                            code(c, x, y);
                        }
                    }
                }
                if (restart != 0 && (y + 1) % restart == 0 && y + 1 < height) {
                    flush();
                    bytes.add(255);
                    bytes.add(0xD0 + restarts % 8);
                    restarts++;
                    begin();
                    firstRow = y + 1;
                }
            }
            flush();
        }

        void begin() {
            for (int c = 0; c < sum.length; c++) {
                sum[c] = start;
                number[c] = 1;
            }
        }

        int told(int c, int x, int y) {
            return y < firstRow ? 0 : told[c][y][x];
        }

        void code(int c, int x, int y) {
            int top = (1 << bits) - 1;
            int above = told(c, x, y - 1);
            int before = x == 0 ? above : told[c][y][x - 1];
            int corner = x == 0 ? above : told(c, x - 1, y - 1);
            int foretold = before + above - corner;
            if (corner >= before && corner >= above) {
                foretold = Math.min(before, above);
            } else if (corner <= before && corner <= above) {
                foretold = Math.max(before, above);
            }
            int step = 2 * near + 1;
            int range = (top + 2 * near) / step + 1;
            int more = samples[c][y][x] - foretold;
            int error = more > 0 ? (more + near) / step : -((-more + near) / step);
            told[c][y][x] = Math.max(0, Math.min(top, foretold + step * error));
            if (error < 0) {
                error += range;
            }
            if (error >= (range + 1) / 2) {
                error -= range;
            }
            int m = error >= 0 ? 2 * error : -2 * error - 1;
            int k = 0;
            while (k < 12 && (number[c] << k) < sum[c]) {
                k++;
            }
            if (m >> k < 20) {
                put("0".repeat(m >> k) + "1" + Checks.bits(m, k));
            } else {
                put("0".repeat(20) + "1" + Checks.bits(m, 9));
            }
            if (number[c] == reset) {
                sum[c] /= 2;
                number[c] /= 2;
            }
            sum[c] += Math.abs(error);
            number[c]++;
        }

        /** Bits of the part at hand, with the 0 behind each full byte that is 255. */
        void put(String text) {
            for (char bit : text.toCharArray()) {
                int whole = data.length() / 8;
                if (data.length() % 8 == 0 && whole > 0
                        && data.substring(8 * whole - 8).equals("11111111")) {
                    data.append('0');
                }
                data.append(bit);
            }
        }

        void flush() {
            while (data.length() % 8 != 0) {
                data.append('0');
            }
            for (int b : Checks.packed(data.toString())) {
                bytes.add(b);
            }
            if (bytes.get(bytes.size() - 1) == 255) {
                bytes.add(0);
            }
            data = new StringBuilder();
        }

        int[] done() {
            mark(0xD9);
            return Checks.bytes(bytes);
        }
    }

    private static void wrongCalls() {
        PictureCodingHouse house = new PictureCodingHouse();
        house.picture(0, 4, 4);
        house.picture(1, 4, 4);
        house.picture(2, 4, 3);
        Checks.index("k", () -> house.lines(8, 0, 0, 0, 0, 0));
        Checks.index("f", () -> house.lines(0, 0, 0, 0, 0, 12));
        Checks.argument("n is looked at before there are so many", () -> house.lines(7, 4, 0, 0, 0, 0));
        Checks.argument("n", () -> house.lines(3, 0, 0, 0, 0, 0));
        Checks.index("so many", () -> house.lines(6, 3, 9, 9, 99, 0));
        Checks.state("none there", () -> house.lines(3, 1, 9, 9, 99, 0));
        Checks.state("sizes", () -> house.lines(0, 3, 9, 9, 99, 0));
        Checks.argument("turn", () -> house.lines(0, 2, 3, 0, 0, 0));
        Checks.argument("turn", () -> house.lines(0, 2, -1, 0, 0, 0));
        Checks.argument("near", () -> house.lines(0, 2, 0, 4, 0, 0));
        Checks.argument("near", () -> house.lines(0, 2, 0, -1, 0, 0));
        Checks.argument("restart", () -> house.lines(0, 2, 0, 0, 13, 0));
        Checks.argument("restart", () -> house.lines(0, 2, 0, 0, -1, 0));
        Checks.index("unline f", () -> house.unline(12, 0));
        Checks.index("unline k", () -> house.unline(0, 8));
        Checks.same("no work", 0, house.told(0));
    }

    private static void byHand() {
        PictureCodingHouse house = new PictureCodingHouse();
        house.picture(0, 1, 1);
        // foretold 0, error 3, m 6, k 2: a bit 0, a 1, and 10
        house.put(0, 0, 0, 1, 3);
        Checks.same("lines", 28, house.lines(0, 1, 2, 0, 0, 1));
        Checks.same("bytes", new int[] {255, 0xD8, 255, 0xF7, 0, 11, 8, 0, 1, 0, 1, 1, 1, 17, 0,
            255, 0xDA, 0, 8, 1, 1, 0, 0, 0, 0, 0b01100000, 255, 0xD9}, Checks.file(house, 1));
    }

    private static void sameAsReference() {
        Random random = new Random(7);
        for (int run = 0; run < 150; run++) {
            PictureCodingHouse house = new PictureCodingHouse();
            int n = 1 + random.nextInt(3);
            int width = 1 + random.nextInt(12);
            int height = 1 + random.nextInt(12);
            int[][][] greys = new int[n][][];
            int k = random.nextInt(9 - n);
            for (int c = 0; c < n; c++) {
                greys[c] = Checks.greys(random, width, height, 255);
                Checks.draw(house, k + c, greys[c]);
                house.shape(k + c, 0, 0, 1, false);
            }
            int turn = random.nextInt(3);
            Stream stream = new Stream(greys);
            stream.near = random.nextInt(4);
            int restart = random.nextInt(13);
            stream.mark(0xD8);
            stream.frame();
            if (restart > 0) {
                stream.restarts(restart);
            }
            if (turn == 0 || n == 1) {
                for (int c = 0; c < n; c++) {
                    stream.scan(0, null, c);
                }
            } else {
                stream.scan(turn, null, n == 2 ? new int[] {0, 1} : new int[] {0, 1, 2});
            }
            int[] due = stream.done();
            Checks.same("lines", due.length, house.lines(k, n, turn, stream.near, restart, 3));
            Checks.same("lines " + run, due, Checks.file(house, 3));
            Checks.same("unline", n, house.unline(3, 8 - n));
            Checks.noFault("unline", house);
            for (int c = 0; c < n; c++) {
                Checks.samePicture("read", house, 8 - n + c, stream.told[c]);
                Checks.same("wholly inside", width * height, house.size(0, 8 - n + c, 2));
            }
            Checks.same("unline", n == 1 ? 1 : -1, house.unline(3, 7));
            if (n > 1) {
                Checks.same("too many", 20, house.fault(0));
                Checks.same("too many", 0, house.fault(1));
            }
            Checks.same("work", 3, house.told(0));
        }
    }

    /** Data, and data before a restart, that end with 255: a 0 follows. */
    private static void fullAtTheEnd() {
        Random random = new Random(71);
        int ends = 0;
        int restarts = 0;
        int[] few = {0, 1, 2, 250, 252, 254, 255};
        for (int run = 0; run < 4000 && (ends < 10 || restarts < 10); run++) {
            // samples that are as foretold take a bit 1 each, after some
            int[][] grey = new int[2][8 + random.nextInt(5)];
            for (int[] row : grey) {
                for (int x = 0; x < random.nextInt(5); x++) {
                    row[x] = few[random.nextInt(7)];
                }
            }
            Stream stream = new Stream(grey);
            stream.mark(0xD8);
            stream.frame();
            stream.restarts(1);
            stream.scan(0, null, 0);
            int[] due = stream.done();
            int n = due.length;
            boolean isEnd = due[n - 4] == 255 && due[n - 3] == 0;
            boolean isRestart = false;
            for (int i = 0; i + 3 < n; i++) {
                isRestart |= due[i] == 255 && due[i + 1] == 0 && due[i + 2] == 255 && due[i + 3] == 0xD0;
            }
            if (isEnd || isRestart) {
                ends += isEnd ? 1 : 0;
                restarts += isRestart ? 1 : 0;
                PictureCodingHouse house = new PictureCodingHouse();
                Checks.draw(house, 0, grey);
                Checks.same("255 at the end", n, house.lines(0, 1, 0, 0, 1, 0));
                Checks.same("255 at the end", due, Checks.file(house, 0));
                Checks.same("255 at the end", 1, house.unline(0, 1));
                Checks.samePicture("255 at the end", house, 1, grey);
            }
        }
        Checks.holds("some end with 255: " + ends + " " + restarts, ends >= 10 && restarts >= 10);
    }

    private static Stream anyStream(Random random, int n, int bits) {
        int width = 1 + random.nextInt(12);
        int height = 1 + random.nextInt(12);
        int[][][] greys = new int[n][][];
        for (int c = 0; c < n; c++) {
            greys[c] = Checks.greys(random, width, height, (1 << bits) - 1);
        }
        Stream stream = new Stream(greys);
        stream.bits = bits;
        return stream;
    }

    private static void readMore() {
        Random random = new Random(8);
        for (int run = 0; run < 150; run++) {
            PictureCodingHouse house = new PictureCodingHouse();
            int n = 1 + random.nextInt(4);
            int bits = 2 + random.nextInt(7);
            Stream stream = anyStream(random, n, bits);
            stream.mark(0xD8);
            if (random.nextBoolean()) {
                stream.mark(0xE0 + random.nextInt(16), new int[random.nextInt(31)]);
            }
            stream.frame();
            if (random.nextBoolean()) {
                stream.restarts(random.nextInt(13));
                stream.restarts(random.nextInt(5));
            }
            if (random.nextBoolean()) {
                stream.mark(0xF8, 1, 255, 1);
                stream.reset = 3 + random.nextInt(20);
                stream.start = 1 + random.nextInt(255);
                stream.mark(0xF8, 1, stream.reset, stream.start);
            }
            boolean tabled = bits < 7 && random.nextBoolean();
            int which = random.nextInt(n);
            if (tabled) {
                stream.table(which);
            }
            int[] all = new int[n];
            int[] tables = new int[n];
            for (int c = 0; c < n; c++) {
                all[c] = c;
                tables[c] = tabled && c == which && random.nextBoolean() ? c + 1 : 0;
            }
            if (n > 1 && random.nextBoolean()) {
                stream.near = random.nextInt(4);
                stream.scan(1 + random.nextInt(2), tables, all);
            } else {
                // one by one, in any order
                int first = random.nextInt(n);
                for (int i = 0; i < n; i++) {
                    stream.near = random.nextInt(4);
                    int c = (first + i) % n;
                    stream.scan(0, new int[] {tables[c]}, c);
                    stream.mark(0xFE);
                }
            }
            int[] file = stream.done();
            if (file.length > 1500) {
                continue;
            }
            Checks.load(house, 2, file);
            Checks.same("unline " + run, n, house.unline(2, 1));
            Checks.noFault("unline", house);
            int top = (1 << bits) - 1;
            for (int c = 0; c < n; c++) {
                int[][] due = new int[stream.height][stream.width];
                for (int y = 0; y < stream.height; y++) {
                    for (int x = 0; x < stream.width; x++) {
                        due[y][x] = 255 * stream.told[c][y][x] / top;
                    }
                }
                Checks.samePicture("read", house, 1 + c, due);
            }
        }
    }

    private static void broken(String what, int[] file, int number, int place) {
        PictureCodingHouse house = new PictureCodingHouse();
        house.picture(0, 2, 1);
        house.put(0, 0, 0, 1, 77);
        Checks.load(house, 0, file);
        Checks.sameFault(what, house, house.unline(0, 0), number, place);
        Checks.samePicture(what + " changes nothing", house, 0, new int[][] {{77, 0}});
        Checks.same(what + " changes nothing", file, Checks.file(house, 0));
    }

    private static Stream small() {
        Stream stream = new Stream(new int[][] {{1, 2}, {3, 4}}, new int[][] {{0, 0}, {9, 9}});
        stream.mark(0xD8);
        return stream;
    }

    private static void faultsOfMarks() {
        broken("empty", new int[0], 1, 0);
        broken("one byte", new int[] {255}, 1, 1);
        broken("not 255", new int[] {254, 0xD8}, 2, 0);
        broken("not the first mark", new int[] {255, 0xF7}, 2, 0);
        broken("unknown mark", new int[] {255, 0xD8, 255, 0xDB}, 2, 2);
        broken("a later first mark", new int[] {255, 0xD8, 255, 0xD8}, 2, 2);
        broken("no mark", new int[] {255, 0xD8, 255}, 1, 3);
        broken("end without a frame", new int[] {255, 0xD8, 255, 0xD9}, 5, 2);
        broken("scan before the frame", new int[] {255, 0xD8, 255, 0xDA}, 5, 2);
        broken("restarts before the frame", new int[] {255, 0xD8, 255, 0xDD, 0}, 5, 2);
        broken("extra before the frame", new int[] {255, 0xD8, 255, 0xF8}, 5, 2);
        Stream stream = small();
        stream.frame();
        int p = stream.bytes.size();
        stream.frame();
        broken("a second frame", Checks.bytes(stream.bytes), 5, p);
        stream = small();
        stream.frame();
        stream.scan(0, null, 1);
        p = stream.bytes.size();
        broken("end too early", stream.done(), 5, p);
        stream.bytes.set(p + 1, 0xF8);
        broken("extra behind a scan", Checks.bytes(stream.bytes), 5, p);
        stream.bytes.set(p + 1, 0xDD);
        broken("restarts behind a scan", Checks.bytes(stream.bytes), 5, p);
        stream = small();
        stream.frame();
        stream.scan(1, null, 0, 1);
        int[] whole = stream.done();
        broken("more behind the end", Checks.joined(whole, new int[] {1}), 9, whole.length);
        broken("end cut", Checks.first(whole, whole.length - 1), 1, whole.length - 1);
    }

    private static void faultsOfSegments() {
        broken("no number", new int[] {255, 0xD8, 255, 0xE3, 0}, 1, 5);
        broken("number below 2", new int[] {255, 0xD8, 255, 0xE3, 0, 1}, 3, 2);
        broken("segment cut", new int[] {255, 0xD8, 255, 0xE3, 0, 5, 1, 1}, 1, 8);
        Stream stream = small();
        for (int i = 0; i < 6; i++) {
            stream.mark(0xE0 + i, new int[30]);
        }
        int p = stream.bytes.size();
        stream.mark(0xFE);
        broken("a seventh note", Checks.bytes(stream.bytes), 4, p);
        stream = small();
        stream.mark(0xEF, new int[31]);
        broken("a long note", Checks.bytes(stream.bytes), 4, 2);
        int[] frame = {8, 0, 12, 0, 12, 2, 1, 17, 0, 2, 17, 0};
        for (int i = 0; i < frame.length; i++) {
            stream = small();
            stream.mark(0xF7, Checks.altered(frame, i, i == 1 || i == 3 ? 1 : frame[i] == 17 ? 18 : 13));
            broken("frame " + i, Checks.bytes(stream.bytes), i == 5 ? 3 : 4, 2);
        }
        wrongSegment(0xF7, 3, 8, 0, 12, 0, 12);
        wrongSegment(0xF7, 4, 8, 0, 12, 0, 12, 0);
        wrongSegment(0xF7, 4, 1, 0, 12, 0, 12, 1, 1, 17, 0);
        wrongSegment(0xF7, 4, 9, 0, 12, 0, 12, 1, 1, 17, 0);
        wrongSegment(0xF7, 4, 8, 0, 0, 0, 12, 1, 1, 17, 0);
        wrongSegment(0xF7, 4, 8, 0, 12, 0, 0, 1, 1, 17, 0);
        wrongSegment(0xF7, 4, 8, 0, 12, 0, 12, 5, 1, 17, 0, 2, 17, 0, 3, 17, 0, 4, 17, 0, 5, 17, 0);
        framed(0xF8, 3);
        framed(0xF8, 4, 3);
        framed(0xF8, 4, 0, 0);
        framed(0xF8, 3, 1);
        framed(0xF8, 3, 1, 3, 1, 0);
        framed(0xF8, 4, 1, 2, 1);
        framed(0xF8, 4, 1, 3, 0);
        framed(0xF8, 3, 2);
        framed(0xF8, 3, 2, 1, 2, 0, 0);
        framed(0xDD, 3);
        framed(0xDD, 3, 0, 0, 0);
        framed(0xDD, 4, 0, 13);
        framed(0xDD, 4, 1, 0);
        framed(0xDA, 3);
        framed(0xDA, 3, 1, 1, 0, 0, 0);
        framed(0xDA, 3, 2, 1, 0, 0, 0, 0);
        framed(0xDA, 4, 0, 0, 0, 0);
        framed(0xDA, 4, 3, 1, 0, 2, 0, 3, 0, 0, 0, 0);
        framed(0xDA, 6, 1, 3, 0, 9, 9, 9);
        framed(0xDA, 6, 1, 0, 0, 9, 9, 9);
        framed(0xDA, 4, 2, 2, 0, 1, 0, 0, 1, 0);
        framed(0xDA, 6, 2, 1, 0, 3, 0, 0, 1, 0);
        framed(0xDA, 4, 2, 1, 0, 1, 0, 0, 1, 0);
        framed(0xDA, 4, 1, 1, 1, 0, 0, 0);
        framed(0xDA, 4, 1, 1, 2, 0, 0, 0);
        framed(0xDA, 4, 1, 1, 0, 4, 0, 0);
        framed(0xDA, 4, 1, 1, 0, 0, 1, 0);
        framed(0xDA, 4, 2, 1, 0, 2, 0, 0, 0, 0);
        framed(0xDA, 4, 2, 1, 0, 2, 0, 0, 3, 0);
        framed(0xDA, 4, 1, 1, 0, 0, 0, 1);
        int[] table = new int[3 + 8];
        table[0] = 2;
        table[1] = 3;
        table[2] = 2;
        tabled("no such component", 6, table);
        tabled("no such component", 6, Checks.altered(table, 1, 0));
        tabled("another width", 4, Checks.altered(Checks.altered(table, 1, 1), 2, 1));
        Stream stream2 = small();
        stream2.bits = 2;
        stream2.frame();
        stream2.table(1);
        p = stream2.bytes.size();
        stream2.table(1);
        broken("a second table", Checks.bytes(stream2.bytes), 5, p);
        stream2 = small();
        stream2.frame();
        stream2.scan(0, null, 0);
        p = stream2.bytes.size();
        stream2.scanHead(0, null, 0);
        broken("a second scan of one", Checks.bytes(stream2.bytes), 5, p);
        stream2 = small();
        stream2.frame();
        stream2.scan(0, null, 0);
        p = stream2.bytes.size();
        stream2.scanHead(1, null, 0, 1);
        broken("a second scan of one among all", Checks.bytes(stream2.bytes), 5, p);
    }

    private static void wrongSegment(int code, int number, int... segment) {
        Stream stream = small();
        stream.mark(code, segment);
        broken("segment " + code, Checks.bytes(stream.bytes), number, 2);
    }

    private static void framed(int code, int number, int... segment) {
        Stream stream = small();
        stream.frame();
        int p = stream.bytes.size();
        stream.mark(code, segment);
        broken("segment " + code + java.util.Arrays.toString(segment), Checks.bytes(stream.bytes), number, p);
    }

    private static void tabled(String what, int number, int[] segment) {
        Stream stream = small();
        stream.bits = 2;
        stream.frame();
        int p = stream.bytes.size();
        stream.mark(0xF8, segment);
        broken(what, Checks.bytes(stream.bytes), number, p);
    }

    private static int[] one(int width, int height, int restart, int... data) {
        Stream stream = new Stream(new int[height][width]);
        stream.mark(0xD8);
        stream.frame();
        if (restart > 0) {
            stream.restarts(restart);
        }
        stream.scanHead(0, null, 0);
        return Checks.joined(Checks.bytes(stream.bytes), data);
    }

    private static void faultsOfData() {
        int start = one(1, 1, 0).length;
        broken("no data", one(1, 1, 0), 1, start);
        // m 0 by k 2: 100, filled
        broken("fills with a 1", one(1, 1, 0, 0b10000001, 255, 0xD9), 7, start);
        broken("21 bits 0", one(1, 1, 0, 0, 0, 0b00000111), 7, start + 2);
        broken("21 bits 0 are met first", one(1, 1, 0, 0, 0, 0), 7, start + 2);
        broken("20 bits 0 and no more", one(1, 1, 0, 0, 0, 0b00001000), 1, start + 3);
        // two samples of m 3: 111 111, then 1 1 for the third, and no more
        broken("ends with 255", one(3, 1, 0, 255), 1, start + 1);
        broken("128 behind 255", one(3, 1, 0, 255, 128), 7, start + 1);
        broken("128 behind 255 at the end", one(1, 2, 0, 255, 255), 7, start);
        PictureCodingHouse house = new PictureCodingHouse();
        // k is 2 each time: 1 11, 1 11, 1 1 and behind the 0 the last bit
        Checks.load(house, 0, one(3, 1, 0, 255, 0b01000000, 255, 0xD9));
        Checks.same("a 0 behind 255", 1, house.unline(0, 0));
        int restartStart = one(1, 2, 1).length;
        broken("a restart is cut", one(1, 2, 1, 128, 255), 1, restartStart + 2);
        broken("no restart", one(1, 2, 1, 128, 255, 0xD1), 8, restartStart + 1);
        broken("no restart", one(1, 2, 1, 128, 0, 0xD0), 8, restartStart + 1);
        broken("fills before a restart", one(1, 2, 1, 129, 0, 0xD0), 7, restartStart);
        Checks.load(house, 0, one(1, 2, 1, 128, 255, 0xD0, 128, 255, 0xD9));
        Checks.same("a restart", 1, house.unline(0, 0));
        full(house);
    }

    /** A part that ends with a byte 255: a 0 follows, and nothing else. */
    private static void full(PictureCodingHouse house) {
        // reset and start make k 7 for one sample: a 1 and seven bits 1, which is m 127
        Stream stream = new Stream(new int[1][1]);
        stream.mark(0xD8);
        stream.frame();
        stream.mark(0xF8, 1, 3, 128);
        stream.scanHead(0, null, 0);
        int[] head = Checks.bytes(stream.bytes);
        Checks.load(house, 0, Checks.joined(head, new int[] {255, 0, 255, 0xD9}));
        Checks.same("255 at the end", 1, house.unline(0, 0));
        // the error is -64, 256 more of it is 192
        Checks.same("sample", 192, house.at(0, 0, 0));
        broken("1 behind 255 at the end", Checks.joined(head, new int[] {255, 1, 255, 0xD9}), 7, head.length + 1);
        broken("none behind 255 at the end", Checks.joined(head, new int[] {255}), 1, head.length + 1);
    }

    private static void anyBytes() {
        Random random = new Random(9);
        for (int run = 0; run < 400; run++) {
            Stream stream = anyStream(random, 1 + random.nextInt(2), 8);
            stream.mark(0xD8);
            stream.frame();
            stream.restarts(random.nextInt(3));
            if (stream.samples.length == 2) {
                stream.scan(1 + random.nextInt(2), null, 0, 1);
            } else {
                stream.scan(0, null, 0);
            }
            int[] file = stream.done();
            for (int i = random.nextInt(4); i >= 0; i--) {
                file[random.nextInt(file.length)] = random.nextInt(256);
            }
            PictureCodingHouse house = new PictureCodingHouse();
            Checks.load(house, 0, file);
            int answer = house.unline(0, 3);
            if (answer < 0) {
                Checks.same("place", -1 - answer, house.fault(1));
                Checks.holds("fault", house.fault(0) > 0);
                Checks.same("nothing changed", -1, house.size(0, 3, 0));
            } else {
                Checks.same("pictures", stream.samples.length, answer);
            }
        }
    }
}
