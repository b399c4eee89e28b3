import java.util.ArrayList;
import java.util.Arrays;
import java.util.HashMap;
import java.util.HashSet;
import java.util.List;
import java.util.Map;
import java.util.Random;
import java.util.Set;
import java.util.zip.CRC32;

/**
 * Promises 7 to 12, the reading calls: a second reading of the document, written plainly, with texts of bits, maps and
 * sets; files with a few bytes altered, taken away or put behind must be read alike, or meet the same FAULT at the
 * same place.
 */
public final class SecondReadingTest {
    static final class Fault extends RuntimeException {
        private static final long serialVersionUID = 1;
        final int number;
        final int place;

        Fault(int number, int place) {
            this.number = number;
            this.place = place;
        }
    }

    public static void main(String[] args) {
        lines();
        waves();
        chunks();
        packs();
        greys();
        texts();
        books();
        randomBooks();
        Checks.end();
    }

    // ---- files, altered

    private static int[] altered(Random random, int[] file) {
        int[] other = file.clone();
        for (int i = random.nextInt(4); i > 0 && other.length > 0; i--) {
            int at = random.nextInt(other.length);
            int sort = random.nextInt(4);
            other[at] = sort == 0 ? random.nextInt(256) : sort == 1 ? other[at] ^ 1 << random.nextInt(8)
                    : sort == 2 ? other[at] + 1 & 255 : random.nextInt(4);
        }
        int sort = random.nextInt(8);
        if (sort == 0) {
            return Checks.first(other, random.nextInt(other.length + 1));
        }
        return sort == 1 ? Checks.joined(other, new int[1 + random.nextInt(3)]) : other;
    }

    private static String seen(Map<Integer, Integer> seen) {
        return seen.toString();
    }

    private static void count(Map<Integer, Integer> seen, int number) {
        seen.merge(number, 1, Integer::sum);
    }

    private static void all(String what, Map<Integer, Integer> seen, int... numbers) {
        for (int number : numbers) {
            Checks.holds(what + ": fault " + number + " was met, of " + seen(seen), seen.containsKey(number));
        }
    }

    // ---- bits

    /** Bits of bytes, from one place to another, each byte's highest first, or lowest first. */
    private static final class Bits {
        final int[] bytes;
        final boolean low;
        final int end;
        final Fault ended;
        int at;

        Bits(int[] bytes, int from, int to, boolean low, Fault ended) {
            this.bytes = bytes;
            this.low = low;
            this.ended = ended;
            at = 8 * from;
            end = to;
        }

        int one() {
            if (at >= end) {
                throw ended;
            }
            int b = bytes[at / 8];
            int bit = low ? b >> at % 8 & 1 : b >> 7 - at % 8 & 1;
            at++;
            return bit;
        }

        int some(int n) {
            int v = 0;
            for (int i = 0; i < n; i++) {
                v = low ? v | one() << i : 2 * v + one();
            }
            return v;
        }

        int place() {
            return at / 8;
        }
    }

    private static long four(int[] f, int at) {
        return (long) f[at] << 24 | f[at + 1] << 16 | f[at + 2] << 8 | f[at + 3];
    }

    // ---- 2 LINES, but for the data

    static int[] lineFile(Random random) {
        int n = 1 + random.nextInt(3);
        int bits = 2 + random.nextInt(4);
        int[][][] samples = new int[n][][];
        int w = 1 + random.nextInt(4);
        int h = 1 + random.nextInt(4);
        for (int c = 0; c < n; c++) {
            samples[c] = Checks.greys(random, w, h, (1 << bits) - 1);
        }
        LinesTest.Stream stream = new LinesTest.Stream(samples);
        stream.bits = bits;
        stream.mark(0xD8);
        for (int i = random.nextInt(3); i > 0; i--) {
            stream.mark(0xE0 + random.nextInt(16), new int[random.nextInt(31)]);
        }
        stream.frame();
        if (random.nextBoolean()) {
            stream.restarts(random.nextInt(4));
        }
        if (random.nextBoolean()) {
            stream.reset = 3 + random.nextInt(60);
            stream.start = 1 + random.nextInt(30);
            stream.mark(0xF8, 1, stream.reset, stream.start);
        }
        int tabled = bits < 4 && random.nextBoolean() ? random.nextInt(n) : -1;
        if (tabled >= 0) {
            stream.table(tabled);
        }
        stream.near = random.nextInt(4);
        int[] all = new int[n];
        int[] tables = new int[n];
        for (int c = 0; c < n; c++) {
            all[c] = c;
            tables[c] = c == tabled && random.nextBoolean() ? c + 1 : 0;
        }
        if (n > 1 && random.nextBoolean()) {
            stream.scan(1 + random.nextInt(2), tables, all);
        } else {
            for (int c = 0; c < n; c++) {
                stream.scan(0, new int[] {tables[c]}, c);
                if (random.nextInt(3) == 0) {
                    stream.mark(0xFE, 1, 2);
                }
            }
        }
        return stream.done();
    }

    private static int wide(int[] f, int at) {
        return f[at] << 8 | f[at + 1];
    }

    /** What is told, component by component; each row of a component is a row. */
    private static int[][][] unline(int[] f) {
        int p = 0;
        int notes = 0;
        int[] frame = null;
        int restart = 0;
        int reset = 64;
        int start = 4;
        Set<Integer> tables = new HashSet<>();
        Map<Integer, int[][]> scans = new HashMap<>();
        for (boolean first = true;; first = false) {
            if (f.length - p < 2) {
                throw new Fault(1, f.length);
            }
            int code = f[p + 1];
            boolean isNote = code >= 0xE0 && code <= 0xEF || code == 0xFE;
            boolean isKnown = isNote || List.of(0xD8, 0xF7, 0xF8, 0xDD, 0xDA, 0xD9).contains(code);
            if (f[p] != 255 || !isKnown || first != (code == 0xD8)) {
                throw new Fault(2, p);
            }
            if (code == 0xD8) {
                p += 2;
                continue;
            }
            boolean isOrdered = isNote || code == 0xF7 == (frame == null)
                    && (code != 0xF8 && code != 0xDD || scans.isEmpty())
                    && (code != 0xD9 || scans.size() == frame[3]);
            if (!isOrdered) {
                throw new Fault(5, p);
            }
            if (code == 0xD9) {
                p += 2;
                break;
            }
            if (f.length - p < 4) {
                throw new Fault(1, f.length);
            }
            int number = wide(f, p + 2);
            if (number < 2) {
                throw new Fault(3, p);
            }
            if (f.length - p - 2 < number) {
                throw new Fault(1, f.length);
            }
            int[] s = Arrays.copyOfRange(f, p + 4, p + 2 + number);
            if (isNote) {
                notes++;
                if (notes > 6 || s.length > 30) {
                    throw new Fault(4, p);
                }
            } else if (code == 0xF7) {
                frame = frameOf(s, p);
            } else if (code == 0xDD) {
                if (number != 4) {
                    throw new Fault(3, p);
                }
                restart = wide(s, 0);
                if (restart > 12) {
                    throw new Fault(4, p);
                }
            } else if (code == 0xF8) {
                if (number < 3) {
                    throw new Fault(3, p);
                }
                if (s[0] == 1) {
                    if (number != 5) {
                        throw new Fault(3, p);
                    }
                    reset = s[1];
                    start = s[2];
                    if (reset < 3 || start < 1) {
                        throw new Fault(4, p);
                    }
                } else if (s[0] == 2) {
                    if (number != 5 + 2 * (1 << frame[0])) {
                        throw new Fault(3, p);
                    }
                    if (s[1] < 1 || s[1] > frame[3]) {
                        throw new Fault(6, p);
                    }
                    if (!tables.add(s[1])) {
                        throw new Fault(5, p);
                    }
                    if (s[2] != 2) {
                        throw new Fault(4, p);
                    }
                } else {
                    throw new Fault(4, p);
                }
            } else {
                int[] parts = partsOf(s, p, frame, scans, tables);
                LineData data = new LineData(f, p + 2 + number);
                data.top = (1 << frame[0]) - 1;
                data.near = s[1 + 2 * parts.length];
                data.reset = reset;
                data.start = start;
                int[][][] told = data.scan(frame[2], frame[1], parts.length, s[2 + 2 * parts.length], restart);
                for (int i = 0; i < parts.length; i++) {
                    scans.put(parts[i], told[i]);
                }
                p = data.place - 2 - number;
            }
            p += 2 + number;
        }
        if (p < f.length) {
            throw new Fault(9, p);
        }
        int[][][] told = new int[frame[3]][][];
        for (int c = 0; c < frame[3]; c++) {
            told[c] = scans.get(c + 1);
            for (int[] row : told[c]) {
                for (int x = 0; x < row.length; x++) {
                    row[x] = 255 * row[x] / ((1 << frame[0]) - 1);
                }
            }
        }
        return told;
    }

    /** BITS, height, width and components. */
    private static int[] frameOf(int[] s, int p) {
        if (s.length < 6 || s.length != 6 + 3 * s[5]) {
            throw new Fault(3, p);
        }
        boolean is = s[0] >= 2 && s[0] <= 8 && wide(s, 1) >= 1 && wide(s, 1) <= 12 && wide(s, 3) >= 1 && wide(s, 3) <= 12
                && s[5] >= 1 && s[5] <= 4;
        for (int c = 0; c < s[5]; c++) {
            is = is && s[6 + 3 * c] == c + 1 && s[7 + 3 * c] == 17 && s[8 + 3 * c] == 0;
        }
        if (!is) {
            throw new Fault(4, p);
        }
        return new int[] {s[0], wide(s, 1), wide(s, 3), s[5]};
    }

    /** The numbers of a scan's components. */
    private static int[] partsOf(int[] s, int p, int[] frame, Map<Integer, int[][]> scans, Set<Integer> tables) {
        if (s.length < 1 || s.length != 4 + 2 * s[0]) {
            throw new Fault(3, p);
        }
        if (s[0] != 1 && s[0] != frame[3]) {
            throw new Fault(4, p);
        }
        int[] parts = new int[s[0]];
        for (int i = 0; i < s[0]; i++) {
            int c = s[1 + 2 * i];
            int table = s[2 + 2 * i];
            if (c < 1 || c > frame[3]) {
                throw new Fault(6, p);
            }
            if (s[0] > 1 && c != i + 1) {
                throw new Fault(4, p);
            }
            if (scans.containsKey(c)) {
                throw new Fault(5, p);
            }
            if (table != 0 && (table != c || !tables.contains(c))) {
                throw new Fault(4, p);
            }
            parts[i] = c;
        }
        int at = 1 + 2 * s[0];
        boolean isTurn = s[0] == 1 ? s[at + 1] == 0 : s[at + 1] == 1 || s[at + 1] == 2;
        if (s[at] > 3 || !isTurn || s[at + 2] != 0) {
            throw new Fault(4, p);
        }
        return parts;
    }

    /** The data of one scan. */
    static final class LineData {
        final int[] file;
        int place;
        int from;
        int bit = 8;
        int top;
        int near;
        int reset;
        int start;

        LineData(int[] file, int place) {
            this.file = file;
            this.place = place;
        }

        int bit() {
            if (bit == 8) {
                if (place >= file.length) {
                    throw new Fault(1, file.length);
                }
                boolean isBehind = place > from && file[place - 1] == 255;
                if (isBehind && file[place] > 127) {
                    throw new Fault(7, place);
                }
                bit = isBehind ? 1 : 0;
                place++;
            }
            return file[place - 1] >> 7 - bit++ & 1;
        }

        void endOfPart() {
            while (bit < 8) {
                if ((file[place - 1] >> 7 - bit++ & 1) != 0) {
                    throw new Fault(7, place - 1);
                }
            }
            if (file[place - 1] == 255) {
                if (place >= file.length) {
                    throw new Fault(1, file.length);
                }
                if (file[place++] != 0) {
                    throw new Fault(7, place - 1);
                }
            }
        }

        int[][][] scan(int width, int height, int components, int turn, int restart) {
            int[][][] told = new int[components][height][width];
            int[] sums = new int[components];
            int[] numbers = new int[components];
            int first = 0;
            for (int y = 0; y < height; y++) {
                if (y == 0 || restart > 0 && y % restart == 0) {
                    if (y > 0) {
                        endOfPart();
                        if (place + 2 > file.length) {
                            throw new Fault(1, file.length);
                        }
                        if (file[place] != 255 || file[place + 1] != 0xD0 + (y / restart - 1) % 8) {
                            throw new Fault(8, place);
                        }
                        place += 2;
                    }
                    bit = 8;
                    from = place;
                    first = y;
                    Arrays.fill(sums, start);
                    Arrays.fill(numbers, 1);
                }
                for (int i = 0; i < width * components; i++) {
                    int c = turn == 2 ? i % components : i / width;
                    int x = turn == 2 ? i / components : i % width;
                    int b = y > first ? told[c][y - 1][x] : 0;
                    int a = x > 0 ? told[c][y][x - 1] : b;
                    int d = x == 0 ? b : y > first ? told[c][y - 1][x - 1] : 0;
                    int foretold = d >= Math.max(a, b) ? Math.min(a, b) : d <= Math.min(a, b) ? Math.max(a, b) : a + b - d;
                    told[c][y][x] = sample(foretold, c, sums, numbers);
                }
            }
            endOfPart();
            return told;
        }

        int sample(int foretold, int c, int[] sums, int[] numbers) {
            int k = 0;
            while (k < 12 && (numbers[c] << k) < sums[c]) {
                k++;
            }
            int m = 0;
            while (bit() == 0) {
                if (++m == 21) {
                    throw new Fault(7, place - 1);
                }
            }
            int more = m == 20 ? 9 : k;
            m = m == 20 ? 0 : m;
            for (int i = 0; i < more; i++) {
                m = 2 * m + bit();
            }
            int error = m % 2 == 0 ? m / 2 : -(m + 1) / 2;
            if (numbers[c] == reset) {
                numbers[c] /= 2;
                sums[c] /= 2;
            }
            numbers[c]++;
            sums[c] += Math.abs(error);
            int step = 2 * near + 1;
            int range = (top + 2 * near) / step + 1;
            int v = foretold + step * error;
            v += v < -near ? step * range : v > top + near ? -step * range : 0;
            return Math.max(0, Math.min(top, v));
        }
    }

    private static void lines() {
        Random random = new Random(201);
        Map<Integer, Integer> seen = new HashMap<>();
        PictureCodingHouse house = new PictureCodingHouse();
        for (int run = 0; run < 6000; run++) {
            int[] file = altered(random, lineFile(random));
            house = fresh(house);
            Checks.load(house, 0, file);
            int answer = house.unline(0, 4);
            try {
                int[][][] told = unline(file);
                Checks.same("unline " + run, told.length, answer);
                for (int c = 0; c < told.length && answer > 0; c++) {
                    Checks.samePicture("unline", house, 4 + c, told[c]);
                }
                count(seen, 0);
            } catch (Fault fault) {
                Checks.sameFault("unline " + run, house, answer, fault.number, fault.place);
                count(seen, fault.number);
            }
        }
        all("unline", seen, 0, 1, 2, 3, 4, 5, 6, 7, 8, 9);
    }

    private static PictureCodingHouse fresh(PictureCodingHouse house) {
        return house.told(0) > 280 ? new PictureCodingHouse() : house;
    }

    // ---- 3 WAVES

    /** Goes through the squares, plane by plane, as far as there are bits; what is known stands in known. */
    private static final class Planes {
        final Bits bits;
        final boolean[][] inside;
        final int[][] known;
        final Set<String> open = new HashSet<>();

        Planes(Bits bits, boolean[][] inside, int planes) {
            this.bits = bits;
            this.inside = inside;
            known = new int[inside.length][inside[0].length];
            try {
                for (int p = planes - 1; p >= 0; p--) {
                    for (int y = 0; y < inside.length; y += 8) {
                        for (int x = 0; x < inside[0].length; x += 8) {
                            square(x, y, 8, p);
                        }
                    }
                }
            } catch (Fault end) {
                // there are no more bits: what is known stays as it is
                bits.at = bits.end;
            }
        }

        void square(int x, int y, int side, int p) {
            boolean isSome = false;
            for (int j = y; j < Math.min(y + side, inside.length); j++) {
                for (int i = x; i < Math.min(x + side, inside[0].length); i++) {
                    isSome |= inside[j][i];
                }
            }
            if (!isSome) {
                return;
            }
            boolean was = open.contains(x + " " + y + " " + side);
            if (!was && bits.one() == 0) {
                return;
            }
            open.add(x + " " + y + " " + side);
            if (side > 1) {
                int half = side / 2;
                square(x, y, half, p);
                square(x + half, y, half, p);
                square(x, y + half, half, p);
                square(x + half, y + half, half, p);
            } else if (!was) {
                known[y][x] = bits.one() == 1 ? -(1 << p) : 1 << p;
            } else if (bits.one() == 1) {
                known[y][x] += known[y][x] < 0 ? -(1 << p) : 1 << p;
            }
        }
    }

    private static void waves() {
        Random random = new Random(202);
        Map<Integer, Integer> seen = new HashMap<>();
        PictureCodingHouse house = new PictureCodingHouse();
        for (int run = 0; run < 4000; run++) {
            house = fresh(house);
            int w = 1 + random.nextInt(12);
            int h = 1 + random.nextInt(12);
            Checks.draw(house, 0, Checks.greys(random, w, h, 255));
            Checks.mask(house, 0, Checks.maskOf(random, w, h));
            house.waves(0, 60000, 0);
            int[] file = Checks.file(house, 0);
            for (int i = random.nextInt(3); i > 0; i--) {
                int some = random.nextBoolean() ? 6 : file.length;
                file[random.nextInt(Math.min(some, file.length))] = random.nextInt(256);
            }
            int limit = random.nextInt(3) > 0 ? 60000 : random.nextInt(60);
            Checks.load(house, 0, file);
            int answer = house.unwave(0, limit, 1);
            try {
                Bits bits = new Bits(file, 0, Math.min(limit, 8 * file.length), false, new Fault(1, 0));
                w = bits.some(4) + 1;
                h = bits.some(4) + 1;
                int planes = bits.some(5);
                boolean[] inside = new boolean[w * h];
                int told = 0;
                boolean is = planes <= 20;
                for (int runs = 0; is && told < w * h; runs++) {
                    int zeros = 0;
                    while (zeros < 17 && bits.one() == 0) {
                        zeros++;
                    }
                    int length = zeros < 17 ? (1 << zeros) + bits.some(zeros) - 1 : 0;
                    is = zeros < 17 && (length > 0 || runs == 0) && length <= w * h - told;
                    for (int i = 0; is && i < length; i++) {
                        inside[told++] = runs % 2 == 1;
                    }
                }
                if (!is) {
                    throw new Fault(1, 0);
                }
                if (w > 12 || h > 12) {
                    throw new Fault(2, 0);
                }
                boolean[][] mask = new boolean[h][w];
                for (int i = 0; i < w * h; i++) {
                    mask[i / w][i % w] = inside[i];
                }
                Planes read = new Planes(bits, mask, planes);
                Checks.same("unwave " + run, bits.at, answer);
                WavesTest.width = w;
                WavesTest.height = h;
                WavesTest.inside = mask;
                WavesTest.wave = read.known;
                WavesTest.transform(true);
                for (int[] row : read.known) {
                    for (int x = 0; x < w; x++) {
                        row[x] = Math.max(0, Math.min(255, row[x]));
                    }
                }
                Checks.samePicture("unwave " + run, house, 1, read.known);
                Checks.sameMask("unwave " + run, house, 1, mask);
                count(seen, 0);
            } catch (Fault fault) {
                Checks.sameFault("unwave " + run, house, answer, fault.number, fault.place);
                count(seen, fault.number);
            }
        }
        all("unwave", seen, 0, 1, 2);
    }

    // ---- 4 CHUNKS

    private static final class Picture {
        int count;
        int[][] grey;
        boolean[][] inside;
    }

    private static Picture unchunk(int[] f) {
        int[] front = {137, 80, 78, 71, 13, 10, 26, 10};
        if (f.length < 8 || !Arrays.equals(front, Checks.first(f, 8))) {
            throw new Fault(1, 0);
        }
        List<String> before = new ArrayList<>();
        List<Integer> data = new ArrayList<>();
        int[] head = null;
        int[] palette = null;
        int[] alphas = new int[0];
        int extras = 0;
        boolean isParted = false;
        Set<String> known = Set.of("gAMA", "sRGB", "pHYs", "PLTE", "tRNS", "IDAT", "IEND", "IHDR");
        for (int p = 8;;) {
            if (f.length - p < 12) {
                throw new Fault(1, p);
            }
            long told = four(f, p);
            if (told > 255) {
                throw new Fault(2, p);
            }
            int n = (int) told;
            if (f.length - p < 12 + n) {
                throw new Fault(1, p);
            }
            StringBuilder letters = new StringBuilder();
            CRC32 sum = new CRC32();
            for (int i = 4; i < 8 + n; i++) {
                sum.update(f[p + i]);
                if (i < 8) {
                    letters.append((char) f[p + i]);
                }
            }
            if (!letters.toString().matches("[A-Za-z]{2}[A-Z][A-Za-z]")) {
                throw new Fault(3, p);
            }
            String name = letters.toString();
            int[] d = Arrays.copyOfRange(f, p + 8, p + 8 + n);
            boolean isGreat = name.charAt(0) <= 'Z';
            boolean isRight = sum.getValue() == four(f, p + 8 + n);
            if (!isRight && isGreat) {
                throw new Fault(4, p);
            }
            if (isRight) {
                boolean isData = before.contains("IDAT");
                int kind = head == null ? -1 : head[9];
                boolean isWrong = before.isEmpty() != name.equals("IHDR");
                isWrong |= Set.of("gAMA", "sRGB", "pHYs", "PLTE", "tRNS").contains(name) && (isData || before.contains(name));
                isWrong |= Set.of("gAMA", "sRGB").contains(name) && before.contains("PLTE");
                isWrong |= name.equals("tRNS") && !before.contains("PLTE");
                isWrong |= name.equals("PLTE") && (kind == 0 || kind == 4);
                isWrong |= name.equals("IDAT") && (isParted || kind == 3 && !before.contains("PLTE"));
                isWrong |= name.equals("IEND") && !isData;
                if (isWrong) {
                    throw new Fault(5, p);
                }
                if (isGreat && !known.contains(name)) {
                    throw new Fault(6, p);
                }
                boolean may = true;
                switch (name) {
                    case "IHDR":
                        may = n == 13 && isHead(d);
                        head = d;
                        break;
                    case "gAMA": may = n == 4 && four(d, 0) >= 1 && four(d, 0) <= 2147483647L; break;
                    case "sRGB": may = n == 1 && d[0] <= 3; break;
                    case "pHYs":
                        may = n == 9 && four(d, 0) >= 1 && four(d, 0) <= 2147483647L && four(d, 0) == four(d, 4) && d[8] == 1;
                        break;
                    case "PLTE":
                        may = n % 3 == 0 && n >= 3 && n / 3 <= Math.min(64, 1 << head[8]);
                        palette = d;
                        break;
                    case "tRNS":
                        may = kind == 3 && n >= 1 && n <= palette.length / 3;
                        alphas = d;
                        break;
                    case "IDAT":
                        for (int b : d) {
                            data.add(b);
                        }
                        break;
                    case "IEND": may = n == 0; break;
                    default: may = n <= 40 && ++extras <= 6; break;
                }
                if (!may) {
                    throw new Fault(7, p);
                }
                before.add(name);
                if (name.equals("IEND")) {
                    Picture picture = draw(head, Checks.bytes(data), palette, alphas);
                    if (picture == null) {
                        throw new Fault(8, p);
                    }
                    picture.count = before.size();
                    return picture;
                }
            }
            isParted |= before.contains("IDAT") && !name.equals("IDAT");
            p += 12 + n;
        }
    }

    private static boolean isHead(int[] d) {
        boolean isKind = d[9] == 0 || d[9] == 2 || d[9] == 3 || d[9] == 4 || d[9] == 6;
        boolean isBits = d[8] == 8 || (d[8] == 1 || d[8] == 2 || d[8] == 4) && (d[9] == 0 || d[9] == 3);
        return four(d, 0) >= 1 && four(d, 0) <= 12 && four(d, 4) >= 1 && four(d, 4) <= 12 && isKind && isBits && d[10] == 0
                && d[11] == 0 && d[12] == 0;
    }

    private static Picture draw(int[] head, int[] data, int[] palette, int[] alphas) {
        int w = head[3];
        int h = head[7];
        int bits = head[8];
        int kind = head[9];
        int channels = new int[] {1, 0, 3, 1, 2, 0, 4}[kind];
        int rowBytes = 1 + (w * channels * bits + 7) / 8;
        if (data.length != rowBytes * h) {
            return null;
        }
        Picture picture = new Picture();
        picture.grey = new int[h][w];
        picture.inside = new boolean[h][w];
        for (int y = 0; y < h; y++) {
            Bits row = new Bits(data, y * rowBytes, 8 * (y + 1) * rowBytes, false, null);
            if (row.some(8) != 0) {
                return null;
            }
            for (int x = 0; x < w; x++) {
                int[] v = new int[channels];
                for (int i = 0; i < channels; i++) {
                    v[i] = row.some(bits);
                }
                int alpha = kind == 4 ? v[1] : kind == 6 ? v[3] : 255;
                int grey = kind == 2 || kind == 6 ? (v[0] + v[1] + v[2]) / 3 : 255 * v[0] / ((1 << bits) - 1);
                if (kind == 3) {
                    if (3 * v[0] >= palette.length) {
                        return null;
                    }
                    grey = (palette[3 * v[0]] + palette[3 * v[0] + 1] + palette[3 * v[0] + 2]) / 3;
                    alpha = v[0] < alphas.length ? alphas[v[0]] : 255;
                }
                picture.grey[y][x] = grey;
                picture.inside[y][x] = alpha != 0;
            }
            while (row.at < row.end) {
                if (row.one() != 0) {
                    return null;
                }
            }
        }
        return picture;
    }

    static int[] chunkFile(Random random) {
        int kind = new int[] {0, 2, 3, 4, 6}[random.nextInt(5)];
        int bits = kind == 0 || kind == 3 ? 1 << random.nextInt(4) : 8;
        int w = 1 + random.nextInt(4);
        int h = 1 + random.nextInt(4);
        int channels = new int[] {1, 0, 3, 1, 2, 0, 4}[kind];
        int entries = 1 + random.nextInt(Math.min(64, 1 << bits));
        List<int[]> chunks = new ArrayList<>();
        chunks.add(ChunksTest.head(w, h, bits, kind));
        String[] some = {"gAMA", "sRGB", "pHYs", "exTr", "abCd", "PLTE", "tRNS", "zzZz"};
        for (int i = 0; i < some.length; i++) {
            boolean isPalette = some[i].equals("PLTE");
            if (isPalette && kind == 3 || random.nextInt(4) == 0 && (!isPalette || kind != 0 && kind != 4)
                    && (!some[i].equals("tRNS") || kind == 3)) {
                int[] data = i == 0 ? new int[] {0, 0, 0, 1 + random.nextInt(9)} : i == 1 ? new int[] {random.nextInt(4)}
                        : i == 2 ? new int[] {0, 0, 1, 0, 0, 0, 1, 0, 1} : isPalette ? new int[3 * entries]
                        : i == 6 ? new int[1 + random.nextInt(entries)] : new int[random.nextInt(5)];
                for (int j = 0; (isPalette || i == 6) && j < data.length; j++) {
                    data[j] = random.nextInt(256) * random.nextInt(2);
                }
                chunks.add(ChunksTest.chunk(some[i], data));
            }
        }
        int[][] rows = new int[h][];
        for (int y = 0; y < h; y++) {
            StringBuilder row = new StringBuilder("00000000");
            for (int i = 0; i < w * channels; i++) {
                row.append(Checks.bits(kind == 3 ? random.nextInt(entries) : random.nextInt(1 << bits), bits));
            }
            rows[y] = Checks.packed(row.toString());
        }
        int[] data = Checks.joined(rows);
        int cut = random.nextInt(data.length + 1);
        if (random.nextInt(30) == 0) {
            chunks.add(ChunksTest.chunk("EXTR"));
        }
        chunks.add(ChunksTest.chunk("IDAT", Checks.first(data, cut)));
        chunks.add(ChunksTest.chunk("IDAT", Arrays.copyOfRange(data, cut, data.length)));
        if (random.nextBoolean()) {
            chunks.add(ChunksTest.chunk("teXt", 1, 2));
        }
        chunks.add(ChunksTest.chunk("IEND"));
        spoil(random, chunks);
        return ChunksTest.whole(chunks.toArray(new int[0][]));
    }

    /** Chunks in another order, twice, away, of other bytes with a right SUM, or with a wrong one. */
    private static void spoil(Random random, List<int[]> chunks) {
        for (int i = random.nextInt(3); i > 0; i--) {
            int at = random.nextInt(chunks.size());
            int[] chunk = chunks.get(at);
            String letters = "" + (char) chunk[4] + (char) chunk[5] + (char) chunk[6] + (char) chunk[7];
            int[] data = Arrays.copyOfRange(chunk, 8, chunk.length - 4);
            switch (random.nextInt(6)) {
                case 0: chunks.add(random.nextInt(chunks.size() + 1), chunk); break;
                case 1: chunks.remove(at); chunks.add(random.nextInt(chunks.size() + 1), chunk); break;
                case 2: chunks.remove(at); break;
                case 3:
                    if (data.length > 0) {
                        data[random.nextInt(data.length)] = random.nextInt(3) > 0 ? random.nextInt(14) : random.nextInt(256);
                    }
                    chunks.set(at, ChunksTest.chunk(letters, data));
                    break;
                case 4: chunks.set(at, ChunksTest.chunk(letters, Checks.first(data, random.nextInt(data.length + 2)))); break;
                default: chunks.set(at, Checks.altered(chunk, chunk.length - 1, chunk[chunk.length - 1] ^ 1)); break;
            }
        }
    }

    private static void chunks() {
        Random random = new Random(203);
        Map<Integer, Integer> seen = new HashMap<>();
        PictureCodingHouse house = new PictureCodingHouse();
        for (int run = 0; run < 8000; run++) {
            int[] file = chunkFile(random);
            if (random.nextInt(3) == 0) {
                file = altered(random, file);
            }
            house = fresh(house);
            Checks.load(house, 0, file);
            int answer = house.unchunk(0, 4);
            try {
                Picture picture = unchunk(file);
                Checks.same("unchunk " + run, picture.count, answer);
                Checks.samePicture("unchunk", house, 4, picture.grey);
                Checks.sameMask("unchunk", house, 4, picture.inside);
                count(seen, 0);
            } catch (Fault fault) {
                Checks.sameFault("unchunk " + run, house, answer, fault.number, fault.place);
                count(seen, fault.number);
            }
        }
        all("unchunk", seen, 0, 1, 2, 3, 4, 5, 6, 7, 8);
    }

    // ---- 5 PACKED FILES

    /** Codes by their bits. */
    private static Map<String, Integer> codes(int[] lengths) {
        Map<String, Integer> codes = new HashMap<>();
        String[] texts = Checks.codes(lengths);
        for (int s = 0; s < lengths.length; s++) {
            if (lengths[s] > 0) {
                codes.put(texts[s], s);
            }
        }
        return codes;
    }

    /** The symbol of the code that comes, -1 if no code begins with the bits that came. */
    private static int symbol(Map<String, Integer> codes, Bits bits) {
        String text = "";
        while (true) {
            String begun = text;
            if (codes.keySet().stream().noneMatch(code -> code.startsWith(begun))) {
                return -1;
            }
            text += bits.one();
            if (codes.containsKey(text)) {
                return codes.get(text);
            }
        }
    }

    /** How much of all codes there can be: 32768 is full. */
    private static int filled(int[] lengths) {
        return Arrays.stream(lengths).filter(n -> n > 0).map(n -> 32768 >> n).sum();
    }

    private static int[] unpack(int[] f) {
        int n = f.length;
        if (n < 9 || n > 1208 || f[0] != 80 || f[1] > 9) {
            throw new Fault(1, 0);
        }
        Bits bits = new Bits(f, 4, 8 * (n - 4), true, new Fault(3, n));
        List<Integer> out = new ArrayList<>();
        boolean isLast = false;
        while (!isLast) {
            int first = bits.place();
            isLast = bits.one() == 1;
            int kind = bits.some(2);
            if (kind == 3) {
                throw new Fault(2, first);
            }
            if (kind == 0) {
                while (bits.at % 8 != 0) {
                    bits.at++;
                }
                int place = bits.place();
                int length = bits.some(16);
                if (bits.some(16) != 65535 - length) {
                    throw new Fault(2, place);
                }
                for (int i = 0; i < length; i++) {
                    put(out, bits.some(8), n);
                }
            } else if (kind == 1) {
                tokens(bits, out, codes(PacksTest.fixedLiterals()), codes(PacksTest.fixedDistances()), n);
            } else {
                int[][] lengths = lengths(bits, first);
                tokens(bits, out, codes(lengths[0]), codes(lengths[1]), n);
            }
        }
        int[] plain = Checks.bytes(out);
        if (plain.length != wide(f, 2)) {
            throw new Fault(4, 2);
        }
        if (!Arrays.equals(PacksTest.adler(plain), Arrays.copyOfRange(f, n - 4, n))) {
            throw new Fault(5, n - 4);
        }
        return plain;
    }

    private static void put(List<Integer> out, int b, int n) {
        if (out.size() == 1500) {
            throw new Fault(3, n);
        }
        out.add(b);
    }

    private static int[][] lengths(Bits bits, int first) {
        int place = bits.place();
        int literals = bits.some(5) + 257;
        if (literals > 286) {
            throw new Fault(2, place);
        }
        place = bits.place();
        int distances = bits.some(5) + 1;
        if (distances > 30) {
            throw new Fault(2, place);
        }
        int told = bits.some(4) + 4;
        int[] code = new int[19];
        for (int i = 0; i < told; i++) {
            code[PacksTest.ORDER[i]] = bits.some(3);
        }
        if (filled(code) != 32768) {
            throw new Fault(2, first);
        }
        Map<String, Integer> codes = codes(code);
        List<Integer> row = new ArrayList<>();
        while (row.size() < literals + distances) {
            place = bits.place();
            int symbol = symbol(codes, bits);
            if (symbol == 16 && row.isEmpty()) {
                throw new Fault(2, place);
            }
            int times = symbol < 16 ? 1 : symbol == 16 ? 3 + bits.some(2) : symbol == 17 ? 3 + bits.some(3) : 11 + bits.some(7);
            int v = symbol < 16 ? symbol : symbol == 16 ? row.get(row.size() - 1) : 0;
            for (int i = 0; i < times; i++) {
                if (row.size() == literals + distances) {
                    throw new Fault(2, place);
                }
                row.add(v);
                if (row.size() == literals && (row.get(256) == 0 || filled(Checks.bytes(row)) != 32768)) {
                    throw new Fault(2, first);
                }
            }
        }
        int[] all = Checks.bytes(row);
        int[] second = Arrays.copyOfRange(all, literals, all.length);
        int full = filled(second);
        boolean isOne = full == 16384 && Arrays.stream(second).filter(v -> v > 0).count() == 1;
        if (full != 32768 && full != 0 && !isOne) {
            throw new Fault(2, first);
        }
        return new int[][] {Checks.first(all, literals), second};
    }

    private static void tokens(Bits bits, List<Integer> out, Map<String, Integer> literals, Map<String, Integer> distances,
            int n) {
        while (true) {
            int place = bits.place();
            int symbol = symbol(literals, bits);
            if (symbol < 0 || symbol > 285) {
                throw new Fault(2, place);
            }
            if (symbol == 256) {
                return;
            }
            if (symbol < 256) {
                put(out, symbol, n);
                continue;
            }
            int length = 3;
            while (PacksTest.lengthCode(length)[0] < symbol) {
                length++;
            }
            length += bits.some(symbol == 285 ? 0 : PacksTest.lengthCode(length)[1]);
            int second = bits.place();
            int distance = symbol(distances, bits);
            if (distance < 0 || distance > 29) {
                throw new Fault(2, second);
            }
            int base = 1;
            for (int s = 0; s < distance; s++) {
                base += 1 << (s < 4 ? 0 : (s - 2) / 2);
            }
            base += bits.some(distance < 4 ? 0 : (distance - 2) / 2);
            if (base > out.size()) {
                throw new Fault(2, place);
            }
            for (int i = 0; i < length; i++) {
                put(out, out.get(out.size() - base), n);
            }
        }
    }

    private static void packs() {
        Random random = new Random(204);
        Map<Integer, Integer> seen = new HashMap<>();
        PictureCodingHouse house = new PictureCodingHouse();
        for (int run = 0; run < 1500; run++) {
            house = fresh(house);
            int[] bytes = PacksTest.someBytes(random);
            Checks.load(house, 0, Checks.first(bytes, Math.min(bytes.length, random.nextInt(4) == 0 ? 512 : 90)));
            house.pack(0, random.nextInt(10), 1);
            int[] file = Checks.file(house, 1);
            if (random.nextBoolean()) {
                // the front of the coded bytes, where codes are told
                file[4 + random.nextInt(Math.min(30, file.length - 8))] ^= 1 << random.nextInt(8);
            } else {
                file = altered(random, file);
            }
            Checks.load(house, 1, file);
            int answer = house.unpack(1, 2);
            try {
                int[] plain = unpack(file);
                Checks.same("unpack " + run, plain.length, answer);
                Checks.same("unpack " + run, plain, Checks.file(house, 2));
                count(seen, 0);
            } catch (Fault fault) {
                Checks.sameFault("unpack " + run, house, answer, fault.number, fault.place);
                count(seen, fault.number);
            }
        }
        all("unpack", seen, 0, 1, 2, 3, 4, 5);
    }

    // ---- 6 HALFTONES

    private static int[][] ungrey(int[] f) {
        if (f.length < 4 || f[0] != 72 || f[1] < 1 || f[1] > 2 || f[2] < 1 || f[2] > 12 || f[3] < 1 || f[3] > 12) {
            throw new Fault(1, 0);
        }
        int q = f[1];
        int w = f[2];
        int h = f[3];
        Bits bits = new Bits(f, 4, 8 * f.length, false, new Fault(11, 4));
        int planes = q == 1 ? 1 : 3;
        int left = planes * w * h;
        int a = 4;
        int m = 1;
        // -1: a run is to be read; else how many bits are as foretold before one that is not
        int run = -1;
        int[][] grey = new int[h][w];
        int[][] above = new int[h][w];
        for (int plane = planes - 1; plane >= -1; plane--) {
            int[][] told = new int[h][w];
            Map<String, Integer> states = new HashMap<>();
            for (int i = 0; i < w * h || plane < 0 && i == 0; i++) {
                if (run < 0) {
                    int k = 0;
                    while (k < 8 && m << k < a) {
                        k++;
                    }
                    int ones = 0;
                    while (ones < 12 && bits.one() == 1) {
                        ones++;
                    }
                    run = ones < 12 ? (ones << k) + bits.some(k) : bits.some(13);
                    if (run > left) {
                        throw new Fault(12, 4);
                    }
                    a += run;
                    m++;
                    if (m == 32) {
                        a /= 2;
                        m /= 2;
                    }
                }
                if (plane < 0) {
                    break;
                }
                int x = i % w;
                int y = i / w;
                String context = at(told, x - 1, y) + " " + at(told, x - 2, y) + " " + at(told, x - 1, y - 1) + " "
                        + at(told, x, y - 1) + " " + at(told, x + 1, y - 1) + " " + above[y][x];
                int state = states.getOrDefault(context, -1);
                int foretold = state >= 0 ? 1 : 0;
                told[y][x] = run == 0 ? 1 - foretold : foretold;
                run--;
                left--;
                states.put(context, told[y][x] == 1 ? Math.min(7, state + (state < 0 ? 2 : 1))
                        : Math.max(-8, state - (state < 0 ? 1 : 2)));
            }
            for (int i = 0; plane >= 0 && i < w * h; i++) {
                int up = grey[i / w][i % w] & 1;
                grey[i / w][i % w] = 2 * grey[i / w][i % w] + (told[i / w][i % w] ^ up);
            }
            above = told;
        }
        while (bits.at % 8 != 0) {
            if (bits.one() == 1) {
                throw new Fault(13, 4);
            }
        }
        if (bits.at < bits.end) {
            throw new Fault(13, 4);
        }
        int[][] read = new int[h][w];
        for (int y = 0; y < h; y++) {
            for (int x = 0; x < w; x++) {
                if (grey[y][x] > q * q) {
                    throw new Fault(14, 4);
                }
                read[y][x] = 255 - 255 * grey[y][x] / (q * q);
            }
        }
        return read;
    }

    private static int at(int[][] told, int x, int y) {
        return x >= 0 && y >= 0 && x < told[0].length ? told[y][x] : 0;
    }

    private static void greys() {
        Random random = new Random(205);
        Map<Integer, Integer> seen = new HashMap<>();
        PictureCodingHouse house = new PictureCodingHouse();
        for (int run = 0; run < 4000; run++) {
            house = fresh(house);
            Checks.draw(house, 0, Checks.greys(random, 1 + random.nextInt(12), 1 + random.nextInt(12), 255));
            house.greys(0, 1 + random.nextInt(2), 0);
            int[] file = altered(random, Checks.file(house, 0));
            Checks.load(house, 0, file);
            int answer = house.ungrey(0, 4);
            try {
                int[][] read = ungrey(file);
                Checks.same("ungrey " + run, read.length * read[0].length, answer);
                Checks.samePicture("ungrey", house, 4, read);
                count(seen, 0);
            } catch (Fault fault) {
                Checks.sameFault("ungrey " + run, house, answer, fault.number, fault.place);
                count(seen, fault.number);
            }
        }
        all("ungrey", seen, 0, 1, 11, 12, 13, 14);
    }

    // ---- 7 TEXTS

    private static final class Text {
        final int[] f;
        final Bits bits;
        char[][] sheet;
        int instances;

        Text(int[] f) {
            this.f = f;
            int[] most = {84, 1, 24, 24, 16};
            int[] least = {84, 0, 1, 1, 0};
            for (int i = 0; i < 5; i++) {
                need(i, least[i], most[i]);
            }
            sheet = new char[f[3]][f[2]];
            for (char[] row : sheet) {
                Arrays.fill(row, '.');
            }
            int p = 5;
            List<String[]> symbols = new ArrayList<>();
            for (int s = 0; s < f[4]; s++) {
                int w = need(p, 1, 8);
                int h = need(p + 1, 1, 8);
                String[] rows = new String[h];
                for (int y = 0; y < h; y++) {
                    String eight = Checks.bits(need(p + 2 + y, 0, 255), 8);
                    if (eight.substring(w).contains("1")) {
                        throw new Fault(1, p + 2 + y);
                    }
                    rows[y] = eight.substring(0, w);
                }
                symbols.add(rows);
                p += 2 + h;
            }
            bits = new Bits(f, p, 8 * f.length, false, new Fault(11, f.length));
            read(symbols);
        }

        int need(int place, int least, int most) {
            if (place >= f.length || f[place] < least || f[place] > most) {
                throw new Fault(1, place);
            }
            return f[place];
        }

        Fault fault(int number) {
            return new Fault(number, bits.place());
        }

        int number() {
            int k = 0;
            while (bits.one() == 0) {
                if (++k == 13) {
                    throw fault(18);
                }
            }
            return (1 << k) + bits.some(k) - 1;
        }

        int signed() {
            int v = number();
            return v % 2 == 0 ? v / 2 : -(v + 1) / 2;
        }

        void read(List<String[]> symbols) {
            instances = number();
            if (instances > 40) {
                throw fault(12);
            }
            int log = bits.some(2);
            boolean turned = bits.one() == 1;
            int corner = bits.some(2);
            int operator = bits.some(3);
            if (operator > 4) {
                throw fault(13);
            }
            Map<String, Integer> codes = null;
            if (f[1] == 0) {
                int[] lengths = new int[symbols.size()];
                for (int s = 0; s < lengths.length; s++) {
                    lengths[s] = bits.some(4);
                }
                int full = filled(lengths);
                boolean isOne = full == 16384 && Arrays.stream(lengths).filter(v -> v > 0).count() == 1;
                if (full != 32768 && !isOne && (full != 0 || instances > 0)) {
                    throw fault(14);
                }
                codes = codes(lengths);
            }
            List<Integer> front = new ArrayList<>();
            for (int s = 0; s < symbols.size(); s++) {
                front.add(s);
            }
            int done = 0;
            int strip = -17;
            int first = 0;
            while (done < instances) {
                strip = done == 0 ? number() - 16 : strip + 1 + number();
                first += signed();
                int s = first;
                for (boolean more = true; more;) {
                    int t = strip * (1 << log) + bits.some(log);
                    int name;
                    if (codes != null) {
                        name = symbol(codes, bits);
                    } else {
                        int place = number();
                        name = place < front.size() ? front.remove(place) : -1;
                        if (name >= 0) {
                            front.add(0, name);
                        }
                    }
                    if (name < 0) {
                        throw fault(15);
                    }
                    String[] symbol = symbols.get(name);
                    int w = symbol[0].length();
                    int h = symbol.length;
                    int x = (turned ? t : s) - (corner > 1 ? w - 1 : 0);
                    int y = (turned ? s : t) - (corner % 2 == 1 ? h - 1 : 0);
                    if (x < -8 || x > 31 || y < -8 || y > 31) {
                        throw fault(16);
                    }
                    String dots = String.join("", symbol);
                    lay(bits.one() == 1 ? differing(dots) : dots, w, x, y, operator);
                    done++;
                    more = bits.one() == 1;
                    if (more && done == instances) {
                        throw fault(12);
                    }
                    if (more) {
                        s += (turned ? h : w) + signed();
                    }
                }
            }
            while (bits.at % 8 != 0) {
                if (bits.one() == 1) {
                    throw fault(19);
                }
            }
            if (bits.at < bits.end) {
                throw fault(19);
            }
        }

        String differing(String dots) {
            StringBuilder text = new StringBuilder();
            for (int runs = 0; text.length() < dots.length(); runs++) {
                int run = number();
                if (run > dots.length() - text.length() || run == 0 && runs > 0) {
                    throw fault(17);
                }
                for (int i = 0; i < run; i++) {
                    boolean is = dots.charAt(text.length()) == '1';
                    text.append(is != (runs % 2 == 1) ? '1' : '0');
                }
            }
            return text.toString();
        }

        void lay(String dots, int w, int x, int y, int operator) {
            for (int i = 0; i < dots.length(); i++) {
                int column = x + i % w;
                int row = y + i / w;
                if (column >= 0 && row >= 0 && row < sheet.length && column < sheet[0].length) {
                    boolean p = sheet[row][column] == '#';
                    boolean d = dots.charAt(i) == '1';
                    boolean v = operator == 0 ? p || d : operator == 1 ? p && d : operator == 2 ? p ^ d
                            : operator == 3 ? p == d : d;
                    sheet[row][column] = v ? '#' : '.';
                }
            }
        }
    }

    /** A text with all that may be read, and some that may not. */
    static int[] textFile(Random random) {
        int naming = random.nextInt(2);
        int symbols = random.nextInt(5);
        List<Integer> head = new ArrayList<>(List.of(84, naming, 4 + random.nextInt(21), 4 + random.nextInt(21), symbols));
        int[] wide = new int[symbols];
        int[] high = new int[symbols];
        for (int s = 0; s < symbols; s++) {
            wide[s] = 1 + random.nextInt(4);
            high[s] = 1 + random.nextInt(4);
            head.add(wide[s]);
            head.add(high[s]);
            for (int y = 0; y < high[s]; y++) {
                head.add(random.nextInt(256) & 0xFF00 >> wide[s] & 255);
            }
        }
        int instances = symbols == 0 ? random.nextInt(20) / 19 : random.nextInt(8);
        int log = random.nextInt(4);
        StringBuilder bits = new StringBuilder(TextsTest.number(instances));
        bits.append(TextsTest.ways(log, random.nextInt(2), random.nextInt(4), random.nextInt(20) == 0 ? 5 : random.nextInt(5)));
        int[] counts = new int[symbols];
        for (int s = 0; s < symbols; s++) {
            counts[s] = random.nextInt(4) + (s == 0 ? 1 : 0);
        }
        int[] lengths = Checks.joinedLengths(counts);
        if (random.nextInt(15) == 0 && symbols > 0) {
            lengths[random.nextInt(symbols)] = random.nextInt(4);
        }
        String[] codes = Checks.codes(lengths);
        for (int s = 0; s < symbols && naming == 0; s++) {
            bits.append(Checks.bits(lengths[s], 4));
        }
        for (int i = 0; i < instances;) {
            bits.append(TextsTest.number(i == 0 ? 16 + random.nextInt(6) - 2 : random.nextInt(3)));
            bits.append(TextsTest.signed(i == 0 ? random.nextInt(9) - 2 : random.nextInt(5) - 2));
            for (boolean more = true; more;) {
                bits.append(Checks.bits(random.nextInt(8), log));
                int s = symbols == 0 ? 0 : random.nextInt(symbols);
                if (naming == 0) {
                    bits.append(s < symbols && codes[s] != null ? codes[s] : "0");
                } else {
                    bits.append(TextsTest.number(random.nextInt(25) == 0 ? symbols : s));
                }
                bits.append(random.nextInt(5) == 0 ? "1" + TextsTest.number(0) + TextsTest.number(1) + TextsTest.number(1) : "0");
                i++;
                more = random.nextBoolean() && (i < instances || random.nextInt(9) == 0);
                bits.append(more ? "1" + TextsTest.signed(random.nextInt(5) - 2) : "0");
            }
        }
        return Checks.joined(Checks.bytes(head), Checks.packed(bits.toString()));
    }

    private static void texts() {
        Random random = new Random(206);
        Map<Integer, Integer> seen = new HashMap<>();
        PictureCodingHouse house = new PictureCodingHouse();
        for (int run = 0; run < 20000; run++) {
            int[] file = textFile(random);
            if (random.nextBoolean()) {
                file = altered(random, file);
            }
            house = fresh(house);
            Checks.load(house, 0, file);
            int answer = house.untext(0, 2);
            try {
                Text text = new Text(file);
                Checks.same("untext " + run, text.instances, answer);
                String[] rows = new String[text.sheet.length];
                for (int y = 0; y < rows.length; y++) {
                    rows[y] = new String(text.sheet[y]);
                }
                Checks.sameSheet("untext " + run, house, 2, rows);
                count(seen, 0);
            } catch (Fault fault) {
                Checks.sameFault("untext " + run, house, answer, fault.number, fault.place);
                count(seen, fault.number);
            }
        }
        all("untext", seen, 0, 1, 11, 12, 13, 14, 15, 16, 17, 18, 19);
    }

    // ---- 8 BOOKS

    private static final class Segment {
        int at;
        int number;
        int kind;
        int flags;
        int[] refers;
        int page;
        long length;
        int data;
        int end;
    }

    private static final class Page {
        boolean[][] dots;
        int width;
        int height;
        int operator;
        boolean isKnown;
        int stripe = -1;
    }

    private static final class Book {
        final int[] f;
        final int order;
        final Map<Integer, Segment> there = new HashMap<>();
        final Map<Integer, Page> pages = new HashMap<>();
        int last = -1;
        int open = 0;

        Book(int[] f, int order) {
            this.f = f;
            this.order = order;
            int p = 0;
            if (order < 2) {
                if (f.length < 13) {
                    throw new Fault(1, f.length);
                }
                int[] nine = {151, 74, 66, 50, 13, 10, 26, 10, 1 - order};
                if (!Arrays.equals(nine, Checks.first(f, 9))) {
                    throw new Fault(2, 0);
                }
                p = 13;
            }
            List<Segment> heads = new ArrayList<>();
            while (order == 1) {
                Segment head = head(p);
                heads.add(head);
                p = head.data;
                if (head.kind == 51) {
                    break;
                }
            }
            for (Segment head : heads) {
                head.data = p;
                segment(head);
                p = head.end;
            }
            boolean isOver = order == 1;
            while (!isOver && (order == 0 || p < f.length)) {
                Segment head = head(p);
                segment(head);
                p = head.end;
                isOver = head.kind == 51;
            }
            if (order == 2 && open != 0) {
                throw new Fault(10, f.length);
            }
            if (order < 2 && p < f.length) {
                throw new Fault(10, p);
            }
        }

        Segment head(int p) {
            Segment s = new Segment();
            s.at = p;
            int left = f.length - p;
            if (left < 6 || f[p + 5] >= 224 && left < 9) {
                throw new Fault(1, f.length);
            }
            if (four(f, p) <= last || four(f, p) > 255) {
                throw new Fault(3, p);
            }
            s.number = (int) four(f, p);
            last = s.number;
            s.kind = f[p + 4];
            Set<Integer> kinds = new HashSet<>(Set.of(0, 4, 6, 38, 48, 49, 50, 53, 62));
            if (order < 2) {
                kinds.add(51);
            }
            if (!kinds.contains(s.kind)) {
                throw new Fault(4, p);
            }
            int n = f[p + 5] / 32;
            int more = p + 6;
            if (f[p + 5] >= 160) {
                if (f[p + 5] != 224 || f[p + 6] != 0 || f[p + 7] != 0 || f[p + 8] < 5 || f[p + 8] > 10) {
                    throw new Fault(8, p);
                }
                n = f[p + 8];
                more = p + 11;
            }
            if (f.length < more + n + 5) {
                throw new Fault(1, f.length);
            }
            s.flags = n < 5 ? f[p + 5] % 32 : f[p + 9] + 256 * f[p + 10];
            if (s.flags >= 2 << n) {
                throw new Fault(8, p);
            }
            s.refers = Arrays.copyOfRange(f, more, more + n);
            s.page = f[more + n];
            s.length = four(f, more + n + 1);
            s.data = more + n + 5;
            return s;
        }

        void segment(Segment s) {
            Set<Integer> told = new HashSet<>();
            int kept = 0;
            for (int r : s.refers) {
                Segment other = there.get(r);
                if (other == null || !told.add(r) || other.page != 0 && other.page != s.page) {
                    throw new Fault(5, s.at);
                }
                boolean may = (s.kind == 0 || s.kind == 4 || s.kind == 6) && (other.kind == 0 || other.kind == 53)
                        || s.kind == 6 && other.kind == 4 && ++kept == 1;
                if (!may) {
                    throw new Fault(5, s.at);
                }
            }
            boolean isOf = s.page <= 9;
            switch (s.kind) {
                case 48: isOf &= s.page > 0 && !pages.containsKey(s.page) && open == 0; break;
                case 49: case 50: case 4: case 6: case 38: isOf &= open > 0 && s.page == open; break;
                case 51: isOf &= s.page == 0; break;
                default: isOf &= s.page == 0 || s.page == open; break;
            }
            if (!isOf) {
                throw new Fault(6, s.at);
            }
            boolean isLong = false;
            boolean isOpen = s.length == 0xFFFFFFFFL;
            switch (s.kind) {
                case 0: case 53: isLong = s.length <= 20; break;
                case 62: isLong = s.length >= 4 && s.length <= 24; break;
                case 48: isLong = s.length == 10; break;
                case 50: isLong = s.length == 4; break;
                case 49: case 51: isLong = s.length == 0; break;
                default: isLong = s.length >= 17 && (!isOpen || s.kind == 38); break;
            }
            if (!isLong) {
                throw new Fault(7, s.at);
            }
            if (!isOpen && f.length - s.data < s.length) {
                throw new Fault(1, f.length);
            }
            s.end = isOpen ? -1 : s.data + (int) s.length;
            data(s);
            there.put(s.number, s);
            for (int i = 0; i <= s.refers.length; i++) {
                if ((s.flags >> i & 1) == 0) {
                    there.remove(i == 0 ? s.number : s.refers[i - 1]);
                }
            }
        }

        void need(boolean may, int number, Segment s) {
            if (!may) {
                throw new Fault(number, s.at);
            }
        }

        void data(Segment s) {
            int d = s.data;
            Page page = pages.get(open);
            switch (s.kind) {
                case 48:
                    long w = four(f, d);
                    long h = four(f, d + 4);
                    need(w >= 1 && w <= 32 && (h >= 1 && h <= 32 || h == 0xFFFFFFFFL) && f[d + 8] <= 1 && f[d + 9] <= 4, 8, s);
                    page = new Page();
                    page.isKnown = h <= 32;
                    page.width = (int) w;
                    page.height = page.isKnown ? (int) h : 32;
                    page.operator = f[d + 9];
                    page.dots = new boolean[32][32];
                    for (boolean[] row : page.dots) {
                        Arrays.fill(row, f[d + 8] == 1);
                    }
                    pages.put(s.page, page);
                    open = s.page;
                    break;
                case 49:
                    need(page.isKnown || page.stripe >= 0, 8, s);
                    page.height = page.isKnown ? page.height : page.stripe + 1;
                    open = 0;
                    break;
                case 50:
                    need(four(f, d) < page.height && four(f, d) > page.stripe, 8, s);
                    page.stripe = (int) four(f, d);
                    break;
                case 51: need(open == 0, 10, s); break;
                case 62: need(f[d] < 128, 9, s); break;
                case 4: case 6: case 38: region(s, page); break;
                default: break;
            }
        }

        int at(int place) {
            if (place >= f.length) {
                throw new Fault(1, f.length);
            }
            return f[place];
        }

        void region(Segment s, Page page) {
            int d = s.data;
            at(d + 16);
            long w = four(f, d);
            long h = four(f, d + 4);
            need(w >= 1 && w <= 16 && h >= 1 && h <= 16 && four(f, d + 8) <= 31 && four(f, d + 12) <= 31 && f[d + 16] <= 5, 8,
                    s);
            int rowBytes = ((int) w + 7) / 8;
            List<String> rows = new ArrayList<>();
            int p = d + 17;
            if (s.end >= 0) {
                need(s.length == 17 + h * rowBytes, 7, s);
                for (int y = 0; y < h; y++) {
                    rows.add(row(p, rowBytes, (int) w, s));
                    p += rowBytes;
                }
            } else {
                while (at(p) == 1) {
                    need(rows.size() < h, 8, s);
                    rows.add(row(p + 1, rowBytes, (int) w, s));
                    p += 1 + rowBytes;
                }
                need(at(p) == 255 && at(p + 1) == 172, 8, s);
                at(p + 5);
                need(four(f, p + 2) == rows.size() && !rows.isEmpty(), 8, s);
                s.end = p + 6;
            }
            for (int r : s.refers) {
                Segment kept = there.get(r);
                if (kept.kind == 4) {
                    need(four(f, kept.data) == w && four(f, kept.data + 4) == rows.size(), 5, s);
                    for (int y = 0; y < rows.size(); y++) {
                        String other = row(kept.data + 17 + y * rowBytes, rowBytes, (int) w, s);
                        StringBuilder text = new StringBuilder();
                        for (int x = 0; x < w; x++) {
                            text.append(other.charAt(x) == rows.get(y).charAt(x) ? '0' : '1');
                        }
                        rows.set(y, text.toString());
                    }
                }
            }
            int operator = f[d + 16] == 5 ? page.operator : f[d + 16];
            for (int y = 0; s.kind != 4 && y < rows.size(); y++) {
                for (int x = 0; x < w; x++) {
                    int column = (int) four(f, d + 8) + x;
                    int line = (int) four(f, d + 12) + y;
                    if (column < page.width && line < page.height) {
                        boolean a = page.dots[line][column];
                        boolean b = rows.get(y).charAt(x) == '1';
                        page.dots[line][column] = operator == 0 ? a || b : operator == 1 ? a && b : operator == 2 ? a != b
                                : operator == 3 ? a == b : b;
                    }
                }
            }
        }

        String row(int p, int rowBytes, int w, Segment s) {
            StringBuilder text = new StringBuilder();
            for (int i = 0; i < rowBytes; i++) {
                text.append(Checks.bits(at(p + i), 8));
            }
            need(!text.substring(w).contains("1"), 8, s);
            return text.substring(0, w);
        }

        /** Pages by their numbers, for so many sheets. */
        List<String[]> sheets(int most) {
            if (pages.size() > most) {
                throw new Fault(20, 0);
            }
            List<String[]> sheets = new ArrayList<>();
            for (int number = 1; number <= 9; number++) {
                Page page = pages.get(number);
                if (page != null) {
                    if (page.width > 24 || page.height > 24) {
                        throw new Fault(21, 0);
                    }
                    String[] rows = new String[page.height];
                    for (int y = 0; y < page.height; y++) {
                        StringBuilder row = new StringBuilder();
                        for (int x = 0; x < page.width; x++) {
                            row.append(page.dots[y][x] ? '#' : '.');
                        }
                        rows[y] = row.toString();
                    }
                    sheets.add(rows);
                }
            }
            return sheets;
        }
    }

    private static void sameBook(String what, PictureCodingHouse house, int[] file, int order, int s,
            Map<Integer, Integer> seen) {
        Checks.load(house, 0, file);
        int answer = house.unbook(0, order, s);
        try {
            List<String[]> sheets = new Book(file, order).sheets(4 - s);
            Checks.same(what, sheets.size(), answer);
            for (int i = 0; i < sheets.size() && answer > 0; i++) {
                Checks.sameSheet(what, house, s + i, sheets.get(i));
            }
            count(seen, 0);
        } catch (Fault fault) {
            Checks.sameFault(what, house, answer, fault.number, fault.place);
            count(seen, fault.number);
        }
    }

    private static void books() {
        Random random = new Random(207);
        Map<Integer, Integer> seen = new HashMap<>();
        PictureCodingHouse house = new PictureCodingHouse();
        for (int run = 0; run < 6000; run++) {
            house = fresh(house);
            int n = 1 + random.nextInt(3);
            for (int i = 0; i < n; i++) {
                house.sheet(i, 1 + random.nextInt(24), 1 + random.nextInt(10));
                for (int j = 0; j < 6; j++) {
                    house.ink(i, random.nextInt(house.size(1, i, 0)), random.nextInt(house.size(1, i, 1)), 1 + random.nextInt(4),
                            true);
                }
            }
            int order = random.nextInt(3);
            if (house.book(0, n, order, random.nextInt(6), 0) > 0) {
                sameBook("unbook " + run, house, altered(random, Checks.file(house, 0)), order, random.nextInt(4), seen);
            }
        }
        all("unbook", seen, 0, 1, 2, 3, 4, 5, 6, 7, 8, 10, 20);
    }

    private static int[] someData(Random random, int kind) {
        int[] region = {0, 0, 0, 1 + random.nextInt(10), 0, 0, 0, 1 + random.nextInt(3), 0, 0, 0, random.nextInt(9), 0, 0, 0,
            random.nextInt(9), random.nextInt(6)};
        int rowBytes = (region[3] + 7) / 8;
        switch (kind) {
            case 0: case 53: return new int[random.nextInt(21)];
            case 62: return Checks.altered(new int[4 + random.nextInt(9)], 0, random.nextInt(30) == 0 ? 128 : 0);
            case 48: return BooksTest.page(1 + random.nextInt(random.nextInt(9) == 0 ? 32 : 16),
                    random.nextInt(3) == 0 ? -1 : 1 + random.nextInt(random.nextInt(9) == 0 ? 32 : 16), random.nextInt(2),
                    random.nextInt(5));
            case 50: return BooksTest.numbers(random.nextInt(12));
            case 4: case 6: case 38:
                int[] rows = new int[region[7] * rowBytes];
                for (int i = 0; i < rows.length; i++) {
                    int spare = i % rowBytes == rowBytes - 1 ? (8 - region[3] % 8) % 8 : 0;
                    rows[i] = random.nextInt(256) & 255 << spare & 255;
                }
                return Checks.joined(region, rows);
            default: return new int[0];
        }
    }

    /** Rows with a byte before each, and what is behind them. */
    private static int[] opened(Random random, int[] region) {
        int rowBytes = (region[3] + 7) / 8;
        List<Integer> bytes = new ArrayList<>();
        int rows = random.nextInt(9) == 0 ? random.nextInt(4) : Math.min(region[7], 1 + random.nextInt(3));
        for (int i = 0; i < 17; i++) {
            bytes.add(region[i]);
        }
        for (int y = 0; y < rows; y++) {
            bytes.add(random.nextInt(40) == 0 ? 2 : 1);
            for (int i = 0; i < rowBytes; i++) {
                bytes.add(17 + y * rowBytes + i < region.length ? region[17 + y * rowBytes + i] : 0);
            }
        }
        bytes.addAll(List.of(255, random.nextInt(40) == 0 ? 171 : 172, 0, 0, 0, random.nextInt(30) == 0 ? 9 : rows));
        return Checks.bytes(bytes);
    }

    /** Segments of any kinds, that refer to others, keep them or let them go. */
    private static void randomBooks() {
        Random random = new Random(208);
        Map<Integer, Integer> seen = new HashMap<>();
        PictureCodingHouse house = new PictureCodingHouse();
        int[] kinds = {0, 53, 62, 4, 6, 38, 38, 50, 4, 6, 0};
        for (int run = 0; run < 20000; run++) {
            BooksTest.Book book = new BooksTest.Book();
            int open = 0;
            int page = 0;
            List<Integer> shared = new ArrayList<>();
            List<Integer> kept = new ArrayList<>();
            for (int i = 2 + random.nextInt(9); i > 0; i--) {
                int kind = open == 0 ? 48 : random.nextInt(5) == 0 ? 49 : kinds[random.nextInt(kinds.length)];
                if (random.nextInt(40) == 0) {
                    kind = new int[] {48, 49, 50, 6, 7, 51}[random.nextInt(6)];
                }
                page = kind == 48 ? page + 1 : page;
                open = kind == 48 ? page : open;
                int of = random.nextInt(50) == 0 ? random.nextInt(11) : (kind == 0 || kind == 53) && random.nextBoolean() ? 0 : open;
                Set<Integer> refers = new HashSet<>();
                if (kind == 0 || kind == 4 || kind == 6) {
                    for (int j = random.nextInt(3); j > 0 && !shared.isEmpty(); j--) {
                        refers.add(shared.get(random.nextInt(shared.size())));
                    }
                    if (kind == 6 && !kept.isEmpty() && random.nextBoolean()) {
                        refers.add(kept.get(kept.size() - 1));
                    }
                }
                if (random.nextInt(40) == 0) {
                    refers.add(random.nextInt(9));
                }
                int[] all = refers.stream().mapToInt(v -> v).toArray();
                int flags = random.nextInt(3) > 0 ? (2 << all.length) - 1 : random.nextInt(2 << all.length);
                if (random.nextInt(60) == 0) {
                    flags = 2 << all.length & 31;
                }
                int[] data = someData(random, kind);
                if (kind == 6 && !kept.isEmpty() && refers.contains(kept.get(kept.size() - 1)) && random.nextInt(5) > 0) {
                    data = book.data.get(kept.get(kept.size() - 1)).clone();
                    data[16] = random.nextInt(6);
                }
                boolean isOpen = kind == 38 && random.nextBoolean();
                data = isOpen ? opened(random, data) : data;
                book.put(kind, flags, all, of, isOpen || random.nextInt(60) == 0 ? -1 : data.length, data);
                if ((kind == 0 || kind == 53) && (flags & 1) == 1) {
                    shared.add(book.number - 1);
                } else if (kind == 4 && (flags & 1) == 1) {
                    kept.add(book.number - 1);
                }
                open = kind == 49 ? 0 : open;
            }
            if (open != 0 && random.nextInt(9) > 0) {
                if (random.nextBoolean()) {
                    book.add(50, open, BooksTest.numbers(12 + random.nextInt(4)));
                }
                book.add(49, open);
            }
            int order = random.nextInt(3);
            if (order < 2 && random.nextInt(20) > 0) {
                book.add(51, 0);
            }
            int[] file = book.file(order, page);
            house = fresh(house);
            if (file.length <= 1500) {
                sameBook("a book " + run, house, random.nextInt(4) == 0 ? altered(random, file) : file, order,
                        random.nextInt(3), seen);
            }
        }
        all("random books", seen, 0, 1, 3, 4, 5, 6, 7, 8, 9, 10, 20, 21);
        Checks.holds("enough were right: " + seen(seen), seen.get(0) > 2000);
    }
}
