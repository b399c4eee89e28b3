import java.util.ArrayList;
import java.util.Arrays;
import java.util.List;
import java.util.Random;
import java.util.zip.Adler32;
import java.util.zip.DataFormatException;
import java.util.zip.Deflater;
import java.util.zip.Inflater;

/** Promise 9: pack and unpack. */
public final class PacksTest {
    static final int[] ORDER = {16, 17, 18, 0, 8, 7, 9, 6, 10, 5, 11, 4, 12, 3, 13, 2, 14, 1, 15};

    public static void main(String[] args) throws DataFormatException {
        wrongCalls();
        byHand();
        sameAsReference();
        readOthers();
        readAnyTokens();
        faults();
        faultsOfCodes();
        anyBytes();
        Checks.end();
    }

    // ---- a plain reading of the document

    static int[] data;
    static int effort;
    // how often a code of the lengths was made anew
    private static int halved = 0;

    private static int[] match(int p, int to) {
        int[] best = {0, 0};
        if (to - p < 3) {
            return best;
        }
        int looked = 0;
        for (int q = p - 1; q >= 0 && looked < 4 * effort; q--) {
            if (data[q] == data[p] && data[q + 1] == data[p + 1] && data[q + 2] == data[p + 2]) {
                looked++;
                int length = 0;
                while (length < 258 && p + length < to && data[q + length] == data[p + length]) {
                    length++;
                }
                if (length > best[0]) {
                    best = new int[] {length, p - q};
                }
            }
        }
        return best;
    }

    /** Tokens are a literal's byte, or a length and a distance. */
    private static List<int[]> tokens(int from, int to) {
        List<int[]> tokens = new ArrayList<>();
        for (int p = from; p < to;) {
            int[] match = match(p, to);
            if (match[0] == 0 || effort > 3 && p + 1 < to && match(p + 1, to)[0] > match[0]) {
                tokens.add(new int[] {data[p]});
                p++;
            } else {
                tokens.add(match);
                p += match[0];
            }
        }
        return tokens;
    }

    static int[] lengthCode(int length) {
        if (length == 258) {
            return new int[] {285, 0, 0};
        }
        int base = 3;
        for (int s = 257;; s++) {
            int extra = s < 265 ? 0 : (s - 261) / 4;
            if (length < base + (1 << extra)) {
                return new int[] {s, extra, length - base};
            }
            base += 1 << extra;
        }
    }

    static int[] distanceCode(int distance) {
        int base = 1;
        for (int s = 0;; s++) {
            int extra = s < 4 ? 0 : (s - 2) / 2;
            if (distance < base + (1 << extra)) {
                return new int[] {s, extra, distance - base};
            }
            base += 1 << extra;
        }
    }

    static String low(int v, int n) {
        return new StringBuilder(Checks.bits(v, n)).reverse().toString();
    }

    private static int[][] own(List<int[]> tokens) {
        int[] literals = new int[286];
        int[] distances = new int[30];
        literals[256] = 1;
        for (int[] token : tokens) {
            if (token.length == 1) {
                literals[token[0]]++;
            } else {
                literals[lengthCode(token[0])[0]]++;
                distances[distanceCode(token[1])[0]]++;
            }
        }
        return new int[][] {Checks.joinedLengths(literals), Checks.joinedLengths(distances)};
    }

    static String body(List<int[]> tokens, int[] literalLengths, int[] distanceLengths) {
        String[] literals = Checks.codes(literalLengths);
        String[] distances = Checks.codes(distanceLengths);
        StringBuilder text = new StringBuilder();
        for (int[] token : tokens) {
            if (token.length == 1) {
                text.append(literals[token[0]]);
            } else {
                int[] length = lengthCode(token[0]);
                int[] distance = distanceCode(token[1]);
                text.append(literals[length[0]]).append(low(length[2], length[1]));
                text.append(distances[distance[0]]).append(low(distance[2], distance[1]));
            }
        }
        return text.append(literals[256]).toString();
    }

    private static int used(int[] lengths, int least) {
        int used = lengths.length;
        while (used > least && lengths[used - 1] == 0) {
            used--;
        }
        return used;
    }

    static String ownHead(int[] literals, int[] distances) {
        int a = used(literals, 257);
        int b = used(distances, 1);
        int[] row = new int[a + b];
        System.arraycopy(literals, 0, row, 0, a);
        System.arraycopy(distances, 0, row, a, b);
        List<int[]> told = new ArrayList<>();
        for (int i = 0; i < row.length;) {
            int n = 1;
            while (i + n < row.length && row[i + n] == row[i]) {
                n++;
            }
            i += n;
            int v = row[i - 1];
            if (v == 0) {
                while (n >= 11) {
                    told.add(new int[] {18, 7, Math.min(n, 138) - 11});
                    n -= Math.min(n, 138);
                }
                if (n >= 3) {
                    told.add(new int[] {17, 3, n - 3});
                    n = 0;
                }
            } else {
                told.add(new int[] {v, 0, 0});
                n--;
                while (n >= 3) {
                    told.add(new int[] {16, 2, Math.min(n, 6) - 3});
                    n -= Math.min(n, 6);
                }
            }
            for (; n > 0; n--) {
                told.add(new int[] {v, 0, 0});
            }
        }
        int[] counts = new int[19];
        for (int[] one : told) {
            counts[one[0]]++;
        }
        int[] lengths = Checks.joinedLengths(counts);
        while (Arrays.stream(lengths).max().getAsInt() > 7) {
            halved++;
            for (int s = 0; s < 19; s++) {
                counts[s] = (counts[s] + 1) / 2;
            }
            lengths = Checks.joinedLengths(counts);
        }
        int n = 19;
        while (n > 4 && lengths[ORDER[n - 1]] == 0) {
            n--;
        }
        StringBuilder text = new StringBuilder(low(a - 257, 5) + low(b - 1, 5) + low(n - 4, 4));
        for (int i = 0; i < n; i++) {
            text.append(low(lengths[ORDER[i]], 3));
        }
        String[] codes = Checks.codes(lengths);
        for (int[] one : told) {
            text.append(codes[one[0]]).append(low(one[2], one[1]));
        }
        return text.toString();
    }

    static int[] fixedLiterals() {
        int[] lengths = new int[288];
        Arrays.fill(lengths, 8);
        Arrays.fill(lengths, 144, 256, 9);
        Arrays.fill(lengths, 256, 280, 7);
        return lengths;
    }

    static int[] fixedDistances() {
        int[] lengths = new int[32];
        Arrays.fill(lengths, 5);
        return lengths;
    }

    /** Kind, bits, and the block's text behind its first bit, but for STORED. */
    private static Object[] kind(List<int[]> tokens, int n) {
        if (effort == 0) {
            return new Object[] {0, 42 + 8 * n, ""};
        }
        int[][] own = own(tokens);
        String fixed = low(1, 2) + body(tokens, fixedLiterals(), fixedDistances());
        String owned = low(2, 2) + ownHead(own[0], own[1]) + body(tokens, own[0], own[1]);
        Object[] best = {0, 42 + 8 * n, ""};
        if (fixed.length() + 1 < (int) best[1]) {
            best = new Object[] {1, fixed.length() + 1, fixed};
        }
        if (owned.length() + 1 < (int) best[1]) {
            best = new Object[] {2, owned.length() + 1, owned};
        }
        return best;
    }

    private static Object[] block(int from, int to) {
        if (effort == 0) {
            return kind(null, to - from);
        }
        List<int[]> tokens = tokens(from, to);
        Object[] best = kind(tokens, to - from);
        for (int round = 6; round < effort; round++) {
            int[][] own = own(tokens);
            int[] price = new int[to + 1];
            int[] step = new int[to + 1];
            for (int p = to - 1; p >= from; p--) {
                int literal = own[0][data[p]];
                price[p] = (literal == 0 ? 12 : literal) + price[p + 1];
                step[p] = 1;
                int[] match = match(p, to);
                for (int length = 3; length <= match[0]; length++) {
                    int[] l = lengthCode(length);
                    int[] d = distanceCode(match[1]);
                    int cost = (own[0][l[0]] == 0 ? 12 : own[0][l[0]]) + l[1]
                            + (own[1][d[0]] == 0 ? 6 : own[1][d[0]]) + d[1] + price[p + length];
                    if (cost < price[p]) {
                        price[p] = cost;
                        step[p] = length;
                    }
                }
            }
            List<int[]> found = new ArrayList<>();
            for (int p = from; p < to; p += step[p]) {
                found.add(step[p] == 1 ? new int[] {data[p]} : new int[] {step[p], match(p, to)[1]});
            }
            Object[] other = kind(found, to - from);
            if ((int) other[1] < (int) best[1]) {
                best = other;
                tokens = found;
            }
        }
        return best;
    }

    static int[] adler(int[] bytes) {
        Adler32 sum = new Adler32();
        for (int b : bytes) {
            sum.update(b);
        }
        List<Integer> list = new ArrayList<>();
        Checks.addNumber(list, sum.getValue(), 4);
        return Checks.bytes(list);
    }

    static int[] reference() {
        int n = data.length;
        int blocks = Math.max(1, (n + 127) / 128);
        // all ways to cut, those with shorter first blocks first
        int best = Integer.MAX_VALUE;
        List<Integer> ends = null;
        Object[][][] tried = new Object[blocks][blocks + 1][];
        for (int i = 0; i < blocks; i++) {
            for (int j = i + 1; j <= blocks; j++) {
                tried[i][j] = block(i * 128, Math.min(n, j * 128));
            }
        }
        for (int cuts = (1 << blocks - 1) - 1; cuts >= 0; cuts--) {
            List<Integer> way = new ArrayList<>();
            for (int i = 1; i < blocks; i++) {
                if ((cuts >> blocks - 1 - i & 1) == 1) {
                    way.add(i);
                }
            }
            way.add(blocks);
            int bits = 0;
            int from = 0;
            for (int to : way) {
                bits += (int) tried[from][to][1];
                from = to;
            }
            if (bits < best) {
                best = bits;
                ends = way;
            }
        }
        StringBuilder text = new StringBuilder();
        int from = 0;
        for (int to : ends) {
            text.append(to == blocks ? 1 : 0);
            if ((int) tried[from][to][0] == 0) {
                text.append("00");
                while (text.length() % 8 != 0) {
                    text.append('0');
                }
                int bytes = Math.min(n, to * 128) - from * 128;
                text.append(low(bytes, 16)).append(low(~bytes & 0xFFFF, 16));
                for (int p = from * 128; p < Math.min(n, to * 128); p++) {
                    text.append(low(data[p], 8));
                }
            } else {
                text.append(tried[from][to][2]);
            }
            from = to;
        }
        return Checks.joined(new int[] {80, effort, n >> 8, n & 255}, Checks.packedLow(text.toString()), adler(data));
    }

    static int[] someBytes(Random random) {
        int sort = random.nextInt(11);
        int n = random.nextInt(8) == 0 ? random.nextInt(4) : sort > 6 ? 512 - random.nextInt(3) : random.nextInt(513);
        int[] bytes = new int[n];
        int few = 1 + random.nextInt(6);
        for (int i = 0; i < n; i++) {
            switch (sort) {
                case 0: bytes[i] = random.nextInt(256); break;
                case 1: bytes[i] = 97 + random.nextInt(few); break;
                case 2: bytes[i] = 7; break;
                case 3: bytes[i] = i > 20 && random.nextInt(9) > 0 ? bytes[i - 11 - few] : random.nextInt(256); break;
                case 4: bytes[i] = i < 200 ? random.nextInt(256) : random.nextInt(8) * random.nextInt(8); break;
                // blocks of other kinds: text and any bytes in turn, any bytes that come again
                case 9: bytes[i] = i / 128 % 2 == few % 2 ? 97 + random.nextInt(3) : random.nextInt(256); break;
                case 10: bytes[i] = i < 60 || random.nextInt(20) == 0 ? random.nextInt(256) : bytes[i % 60]; break;
                case 7: bytes[i] = (int) (256 * Math.pow(random.nextDouble(), 2 + few)); break;
                case 8: bytes[i] = random.nextInt(3) > 0 ? random.nextInt(8) : random.nextInt(256); break;
                case 5: bytes[i] = (int) Math.min(255, Math.abs(random.nextGaussian()) * few * 9); break;
                default: bytes[i] = "the house of pictures, the sheets and the files ".charAt(i * (1 + i / 160) % 48);
            }
        }
        return bytes;
    }

    static int[] inflated(int[] file, int n) throws DataFormatException {
        byte[] coded = new byte[file.length - 8];
        for (int i = 0; i < coded.length; i++) {
            coded[i] = (byte) file[i + 4];
        }
        Inflater inflater = new Inflater(true);
        inflater.setInput(Arrays.copyOf(coded, coded.length + 1));
        byte[] plain = new byte[2000];
        int got = inflater.inflate(plain);
        Checks.holds("inflater is at the end", inflater.finished());
        inflater.end();
        Checks.same("inflated", n, got);
        int[] bytes = new int[got];
        for (int i = 0; i < got; i++) {
            bytes[i] = plain[i] & 255;
        }
        return bytes;
    }

    private static void sameAsReference() throws DataFormatException {
        Random random = new Random(11);
        for (int run = 0; run < 500; run++) {
            data = someBytes(random);
            PictureCodingHouse house = new PictureCodingHouse();
            Checks.load(house, 4, data);
            effort = run < 200 ? run % 10 : 7 + run % 3;
            int[] due = reference();
            Checks.same("pack", due.length, house.pack(4, effort, 5));
            Checks.same("pack by " + effort + " run " + run, due, Checks.file(house, 5));
            Checks.same("the file stays", data, Checks.file(house, 4));
            Checks.same("inflated", data, inflated(due, data.length));
            Checks.same("unpack", data.length, house.unpack(5, 5));
            Checks.noFault("unpack", house);
            Checks.same("unpacked", data, Checks.file(house, 5));
            Checks.same("pack into itself", due.length, house.pack(4, effort, 4));
        }
        Checks.holds("codes of lengths were made anew " + halved, halved > 20);
    }

    private static void wrongCalls() {
        PictureCodingHouse house = new PictureCodingHouse();
        for (int i = 0; i < 513; i++) {
            house.feed(0, i & 255);
        }
        Checks.index("pack", () -> house.pack(12, 10, 0));
        Checks.index("pack", () -> house.pack(0, 10, 12));
        Checks.state("pack", () -> house.pack(0, 10, 1));
        Checks.argument("pack", () -> house.pack(1, 10, 0));
        Checks.argument("pack", () -> house.pack(1, -1, 0));
        Checks.index("unpack", () -> house.unpack(12, 0));
        Checks.index("unpack", () -> house.unpack(0, -1));
        Checks.same("no work", 0, house.told(0));
        house.cut(0, 512);
        Checks.same("512 bytes", 8 + 5 + 512, house.pack(0, 0, 1));
    }

    private static void byHand() {
        PictureCodingHouse house = new PictureCodingHouse();
        Checks.same("empty, stored", 13, house.pack(0, 0, 1));
        Checks.same("empty, stored", new int[] {80, 0, 0, 0, 1, 0, 0, 255, 255, 0, 0, 0, 1}, Checks.file(house, 1));
        Checks.same("empty, fixed", 10, house.pack(0, 1, 1));
        Checks.same("empty, fixed", new int[] {80, 1, 0, 0, 3, 0, 0, 0, 0, 1}, Checks.file(house, 1));
        Checks.same("unpack", 0, house.unpack(1, 2));
        // 32 bytes of nine bits each: the fixed codes take as many bits as storing, which is the lower kind
        for (int i = 0; i < 32; i++) {
            house.feed(3, 144 + i * 7 / 2);
        }
        Checks.same("a tie", 8 + 5 + 32, house.pack(3, 3, 1));
        Checks.same("a tie", 1, house.byteAt(1, 4));
        house.alter(3, 8, 99);
        Checks.same("no tie", 8 + (3 + 8 + 31 * 9 + 7 + 7) / 8, house.pack(3, 3, 1));
        Checks.same("no tie", 3, house.byteAt(1, 4) & 7);
    }

    private static void readOthers() throws DataFormatException {
        Random random = new Random(12);
        for (int run = 0; run < 120; run++) {
            int[] bytes = someBytes(random);
            if (run % 3 == 0) {
                bytes = Checks.joined(bytes, someBytes(random));
            }
            byte[] plain = new byte[bytes.length];
            for (int i = 0; i < plain.length; i++) {
                plain[i] = (byte) bytes[i];
            }
            Deflater deflater = new Deflater(random.nextInt(10), true);
            deflater.setStrategy(random.nextInt(3));
            deflater.setInput(plain);
            deflater.finish();
            byte[] coded = new byte[3000];
            int n = 0;
            while (!deflater.finished()) {
                n += deflater.deflate(coded, n, coded.length - n);
            }
            deflater.end();
            if (n > 1198) {
                continue;
            }
            int[] middle = new int[n + 2];
            for (int i = 0; i < n; i++) {
                middle[i] = coded[i] & 255;
            }
            middle[n] = 255;
            PictureCodingHouse house = new PictureCodingHouse();
            Checks.load(house, 0, Checks.joined(new int[] {80, 9, bytes.length >> 8, bytes.length & 255}, middle,
                    adler(bytes)));
            Checks.same("unpack " + run, bytes.length, house.unpack(0, 1));
            Checks.same("unpack", bytes, Checks.file(house, 1));
        }
    }

    /** Fixed blocks of any literals, lengths and distances, up to 1500 bytes. */
    private static void readAnyTokens() {
        Random random = new Random(14);
        for (int run = 0; run < 60; run++) {
            List<int[]> tokens = new ArrayList<>();
            List<Integer> plain = new ArrayList<>();
            int target = 1200 + random.nextInt(301);
            while (plain.size() < target) {
                int left = target - plain.size();
                if (plain.size() < 40 || left < 3 || random.nextInt(3) == 0) {
                    int v = random.nextInt(256);
                    tokens.add(new int[] {v});
                    plain.add(v);
                } else {
                    int length = Math.min(left, 3 + (random.nextInt(4) == 0 ? random.nextInt(256) : random.nextInt(20)));
                    int distance = 1 + random.nextInt(plain.size());
                    tokens.add(new int[] {length, distance});
                    for (int i = 0; i < length; i++) {
                        plain.add(plain.get(plain.size() - distance));
                    }
                }
            }
            String text = "1" + "10" + body(tokens, fixedLiterals(), fixedDistances());
            int[] due = Checks.bytes(plain);
            int[] file = Checks.joined(new int[] {80, 3, due.length >> 8, due.length & 255}, Checks.packedLow(text),
                    adler(due));
            if (file.length <= 1208) {
                PictureCodingHouse house = new PictureCodingHouse();
                Checks.load(house, 0, file);
                Checks.same("any tokens", due.length, house.unpack(0, 1));
                Checks.same("any tokens", due, Checks.file(house, 1));
            }
        }
    }

    /** The coded bits in a file that tells n bytes; the place of a fault is that of a bit, or told as it is. */
    private static void broken(String what, String bits, int number, int bit) {
        int[] file = Checks.joined(new int[] {80, 0, 0, 5}, Checks.packedLow(bits), new int[4]);
        PictureCodingHouse house = new PictureCodingHouse();
        house.feed(1, 9);
        Checks.load(house, 0, file);
        int place = number == 2 ? 4 + bit / 8 : number == 3 ? file.length : bit;
        Checks.sameFault(what, house, house.unpack(0, 1), number, place);
        Checks.same(what + " changes nothing", new int[] {9}, Checks.file(house, 1));
    }

    private static void plain(String what, int[] file, int number, int place) {
        PictureCodingHouse house = new PictureCodingHouse();
        Checks.load(house, 0, file);
        Checks.sameFault(what, house, house.unpack(0, 0), number, place);
        Checks.same(what + " changes nothing", file, Checks.file(house, 0));
    }

    private static final String FIXED = "110";

    static String literal(int v) {
        return Checks.codes(fixedLiterals())[v];
    }

    private static void faults() {
        int[] empty = {80, 1, 0, 0, 3, 0, 0, 0, 0, 1};
        plain("8 bytes", Checks.first(empty, 8), 1, 0);
        plain("1209 bytes", Checks.first(empty, 1209), 1, 0);
        plain("front", Checks.altered(empty, 0, 81), 1, 0);
        plain("effort", Checks.altered(empty, 1, 10), 1, 0);
        plain("so many", Checks.altered(empty, 3, 1), 4, 2);
        plain("so many", Checks.altered(empty, 2, 1), 4, 2);
        for (int i = 6; i < 10; i++) {
            plain("sum", Checks.altered(empty, i, 2), 5, 6);
        }
        plain("1208 bytes", Checks.altered(Checks.first(empty, 1208), 4, 0), 2, 5);
        broken("kind 3", "111", 2, 0);
        broken("kind 3 behind another block", "010" + literal(256) + "111", 2, 10);
        broken("kind 3 behind another block", "010" + literal(7).repeat(1) + literal(256) + "011", 2, 18);
        broken("no complement", "100" + "00000" + low(2, 16) + low(2, 16), 2, 8);
        broken("no complement", "100" + "11111" + low(2, 16) + low(0xFFFC, 16), 2, 8);
        broken("stored is cut", "100" + "00000" + low(2, 16) + low(0xFFFD, 16) + low(7, 8), 3, 0);
        broken("stored has no numbers", "100", 3, 0);
        broken("no end", FIXED + literal(65).repeat(3), 3, 0);
        broken("length 286", FIXED + literal(65) + literal(286) + "00000", 2, 11);
        broken("length 287", FIXED + literal(65) + literal(287) + "00000", 2, 11);
        broken("distance 30", FIXED + literal(65) + literal(257) + Checks.bits(30, 5), 2, 11 + 7);
        broken("distance 31", FIXED + literal(65) + literal(257) + Checks.bits(31, 5), 2, 11 + 7);
        broken("before the first byte", FIXED + literal(65) + literal(257) + Checks.bits(1, 5), 2, 11);
        broken("before the first byte", FIXED + literal(265) + "1" + Checks.bits(0, 5), 2, 3);
        broken("before the first byte, but the bits end", FIXED + literal(65) + literal(257) + Checks.bits(9, 5), 3, 0);
        StringBuilder many = new StringBuilder(FIXED + literal(65));
        for (int i = 0; i < 6; i++) {
            many.append(literal(285)).append("00000");
        }
        broken("1549 bytes", many.toString(), 3, 0);
        String stored = "000" + "00000" + low(0, 16) + low(0xFFFF, 16);
        broken("too few", stored + stored + FIXED + literal(256), 4, 2);
        PictureCodingHouse house = new PictureCodingHouse();
        StringBuilder over = new StringBuilder(FIXED + literal(65));
        for (int i = 0; i < 5; i++) {
            over.append(literal(285)).append("00000");
        }
        over.append(literal(lengthCode(209)[0])).append(low(lengthCode(209)[2], lengthCode(209)[1])).append("00000");
        broken("1501 bytes", over.toString() + literal(65) + literal(256), 3, 0);
        broken("1501 bytes, stored", "000" + "00000" + low(600, 16) + low(~600 & 0xFFFF, 16) + low(7, 8).repeat(600)
                + "010" + literal(285) + "00000" + literal(285) + "00000" + literal(285) + "00000" + literal(281)
                + low(0, 5) + "00000" + literal(256), 3, 0);
        int[] thousand = new int[1500];
        StringBuilder full = new StringBuilder(FIXED + literal(0));
        for (int i = 0; i < 5; i++) {
            full.append(literal(285)).append("00000");
        }
        full.append(literal(lengthCode(209)[0])).append(low(lengthCode(209)[2], lengthCode(209)[1])).append("00000");
        full.append(literal(256));
        Checks.load(house, 0, Checks.joined(new int[] {80, 0, 1500 >> 8, 1500 & 255},
                Checks.packedLow(full.toString()), adler(thousand)));
        Checks.same("1500 bytes", 1500, house.unpack(0, 3));
        Checks.same("1500 bytes", thousand, Checks.file(house, 3));
    }

    /** Own codes told one by one: lengths of the lengths' code by their symbols. */
    static String ownFront(int a, int b, int[] lengths) {
        StringBuilder text = new StringBuilder("101" + low(a - 257, 5) + low(b - 1, 5) + low(15, 4));
        for (int symbol : ORDER) {
            text.append(low(lengths[symbol], 3));
        }
        return text.toString();
    }

    private static void faultsOfCodes() {
        int[] lengths = new int[19];
        lengths[0] = 2;
        lengths[1] = 2;
        lengths[16] = 2;
        lengths[18] = 2;
        String[] codes = Checks.codes(lengths);
        String zeros138 = codes[18] + low(127, 7);
        String front = ownFront(257, 1, lengths);
        int row = front.length();
        broken("287 lengths", "101" + low(30, 5), 2, 3);
        broken("288 lengths, distances too", "101" + low(31, 5) + low(31, 5), 2, 3);
        broken("31 distances", "101" + low(29, 5) + low(30, 5), 2, 8);
        broken("32 distances", "101" + low(0, 5) + low(31, 5), 2, 8);
        broken("lengths are cut", front.substring(0, 30), 3, 0);
        int[] other = lengths.clone();
        other[18] = 3;
        broken("lengths' code is not full", ownFront(257, 1, other), 2, 0);
        other[18] = 1;
        broken("lengths' code is over-full", ownFront(257, 1, other), 2, 0);
        int[] single = new int[19];
        single[1] = 1;
        broken("lengths' code of one bit", ownFront(257, 1, single), 2, 0);
        broken("no lengths' code", ownFront(257, 1, new int[19]), 2, 0);
        broken("a repeat of nothing", front + codes[16] + "00", 2, row);
        String before = front + zeros138 + codes[18] + low(118 - 11, 7);
        // 256 zeros, then the end of one bit: not full, told when the set is there whole
        broken("literals are not full", before + codes[1], 2, 0);
        broken("the row is cut", before.substring(0, before.length() / 8 * 8), 3, 0);
        String ones = front + codes[1] + codes[1] + zeros138 + codes[18] + low(116 - 11, 7);
        broken("no length for the end", ones + codes[0], 2, 0);
        broken("over-full", ones + codes[1], 2, 0);
        // 255 zeros and two ones are full; then a repeat lays one distance and one behind the row
        String good = front + zeros138 + codes[18] + low(117 - 11, 7) + codes[1] + codes[1];
        broken("beyond the row", good + codes[16] + "00", 2, good.length());
        broken("beyond the row, behind literals that are wrong", before + codes[18] + low(127, 7), 2, 0);
        String two = ownFront(257, 2, lengths) + zeros138 + codes[18] + low(117 - 11, 7) + codes[1] + codes[1];
        String three = ownFront(257, 3, lengths) + zeros138 + codes[18] + low(117 - 11, 7) + codes[1] + codes[1];
        broken("distances are over-full", three + codes[1] + codes[1] + codes[1], 2, 0);
        int[] twos = new int[19];
        twos[0] = 2;
        twos[1] = 2;
        twos[2] = 2;
        twos[18] = 2;
        String[] twoCodes = Checks.codes(twos);
        String wide = ownFront(257, 2, twos) + twoCodes[18] + low(127, 7) + twoCodes[18] + low(117 - 11, 7)
                + twoCodes[1] + twoCodes[1];
        broken("distances are not full", wide + twoCodes[2] + twoCodes[0], 2, 0);
        broken("distances are not full, of two", wide + twoCodes[2] + twoCodes[2], 2, 0);
        broken("distances are not full", wide + twoCodes[1] + twoCodes[2], 2, 0);
        withDistances(two + codes[0] + codes[1]);
        // the literals 0 for 255, 1 for the end
        PictureCodingHouse house = new PictureCodingHouse();
        Checks.load(house, 0, Checks.joined(new int[] {80, 0, 0, 2},
                Checks.packedLow(good + codes[0] + "001"), adler(new int[] {255, 255})));
        Checks.same("no distances", 2, house.unpack(0, 0));
        matches();
    }

    private static void withDistances(String text) {
        PictureCodingHouse house = new PictureCodingHouse();
        Checks.load(house, 0, Checks.joined(new int[] {80, 0, 0, 2}, Checks.packedLow(text + "001"),
                adler(new int[] {255, 255})));
        Checks.same("one distance of one bit", 2, house.unpack(0, 0));
    }

    /** Literal 0 (bits 10), the end (11) and the length 3 (0), with a distance or none. */
    private static void matches() {
        int[] lengths = new int[19];
        lengths[0] = 2;
        lengths[1] = 2;
        lengths[2] = 2;
        lengths[18] = 2;
        String[] codes = Checks.codes(lengths);
        String front = ownFront(258, 1, lengths) + codes[2] + codes[18] + low(127, 7) + codes[18]
                + low(117 - 11, 7) + codes[2] + codes[1];
        String none = front + codes[0];
        String one = front + codes[1];
        broken("no distance at all", none + "10" + "0", 2, none.length() + 3);
        while ((none.length() + 3) % 8 != 0) {
            // each literal has two bits; one bit more comes with the length
            none += "10";
            if (none.length() > 400) {
                break;
            }
        }
        broken("no distance at all, at once", none + "100", 2, none.length() + 3);
        broken("a distance that is none", one + "10" + "0" + "1", 2, one.length() + 3);
        PictureCodingHouse house = new PictureCodingHouse();
        Checks.load(house, 0, Checks.joined(new int[] {80, 0, 0, 4}, Checks.packedLow(one + "10" + "00" + "11"),
                adler(new int[4])));
        Checks.same("a match", 4, house.unpack(0, 0));
        Checks.same("a match", new int[4], Checks.file(house, 0));
    }

    private static void anyBytes() {
        Random random = new Random(13);
        for (int run = 0; run < 600; run++) {
            data = someBytes(random);
            PictureCodingHouse house = new PictureCodingHouse();
            Checks.load(house, 0, data);
            int n = house.pack(0, random.nextInt(10), 1);
            for (int i = random.nextInt(3); i >= 0; i--) {
                house.alter(1, random.nextInt(n), random.nextInt(256));
            }
            house.cut(1, n - random.nextInt(2));
            int answer = house.unpack(1, 2);
            if (house.fault(0) == 0) {
                Checks.same("unpack", house.size(2, 2, 0), answer);
            } else {
                Checks.same("fault", -1 - house.fault(1), answer);
                Checks.holds("fault", house.fault(0) <= 5);
                Checks.same("nothing changed", 0, house.size(2, 2, 0));
            }
        }
    }
}
