import java.util.ArrayList;
import java.util.Arrays;
import java.util.List;
import java.util.Random;

/** Promise 9 and 5 PACKED FILES: blocks at their ends, codes as long as may be, each FAULT at its bit. */
public final class PackEdgesTest {
    private static PictureCodingHouse house = new PictureCodingHouse();

    public static void main(String[] args) {
        sizesOfBlocks();
        longestMatches();
        placesLookedAt();
        closeCalls();
        mostBytes();
        cutAnywhere();
        fronts();
        kinds();
        stored();
        numbersOfLengths();
        lengthsCode();
        endOfTheRow();
        repeats();
        setsOfLiterals();
        setsOfDistances();
        longestCodes();
        codesThatNoneHas();
        symbolsOfFixedCodes();
        beforeTheFirstByte();
        extraBits();
        manyBytes();
        sums();
        behindTheEnd();
        Checks.end();
    }

    private static PictureCodingHouse next() {
        if (house.told(0) > 280) {
            house = new PictureCodingHouse();
        }
        return house;
    }

    private static int[] file(int n, String bits, int[] plain) {
        return Checks.joined(new int[] {80, 9, n >> 8, n & 255}, Checks.packedLow(bits), PacksTest.adler(plain));
    }

    private static void broken(String what, int[] file, int number, int place) {
        PictureCodingHouse h = next();
        Checks.load(h, 0, file);
        Checks.load(h, 1, new int[] {3, 2, 1});
        Checks.broken(what, h, number, place, () -> h.unpack(0, 1));
    }

    /** FAULT 2 at this bit of the CODED bytes. */
    private static void brokenAt(String what, String bits, int bit) {
        broken(what, file(7, bits, new int[7]), 2, 4 + bit / 8);
    }

    /** FAULT 3: the place is how many bytes the file has. */
    private static void tooShort(String what, String bits) {
        int[] file = file(7, bits, new int[7]);
        broken(what, file, 3, file.length);
    }

    private static void right(String what, String bits, int... plain) {
        PictureCodingHouse h = next();
        Checks.load(h, 0, file(plain.length, bits, plain));
        Checks.read(what, h, plain.length, () -> h.unpack(0, 1));
        Checks.same(what, plain, Checks.file(h, 1));
    }

    private static String low(int v, int n) {
        return PacksTest.low(v, n);
    }

    private static String literal(int v) {
        return PacksTest.literal(v);
    }

    private static final String FIXED = "110";

    /** A match by fixed codes. */
    private static String match(int length, int distance) {
        int[] l = PacksTest.lengthCode(length);
        int[] d = PacksTest.distanceCode(distance);
        return literal(l[0]) + low(l[2], l[1]) + Checks.bits(d[0], 5) + low(d[2], d[1]);
    }

    // ---- packing

    private static void samePacked(String what, int[] bytes, int effort) {
        PictureCodingHouse h = next();
        Checks.load(h, 0, bytes);
        PacksTest.data = bytes;
        PacksTest.effort = effort;
        int[] due = PacksTest.reference();
        Checks.same(what + " by " + effort, due.length, h.pack(0, effort, 1));
        Checks.same(what + " by " + effort, due, Checks.file(h, 1));
        Checks.read(what, h, bytes.length, () -> h.unpack(1, 2));
        Checks.same(what, bytes, Checks.file(h, 2));
    }

    /** "BLOCKS begin at multiples of 128", "No bytes are one block", "fewer than three bytes up to to". */
    private static void sizesOfBlocks() {
        Random random = new Random(5);
        int[] sizes = {0, 1, 2, 3, 4, 127, 128, 129, 130, 131, 255, 256, 257, 384, 385, 511, 512};
        for (int size : sizes) {
            for (int effort : size > 300 ? new int[] {0, 1, 6, 9} : new int[] {0, 1, 3, 4, 6, 7, 9}) {
                int[] alike = new int[size];
                int[] some = new int[size];
                for (int i = 0; i < size; i++) {
                    some[i] = i % 128 < 64 ? random.nextInt(256) : some[Math.max(0, i - 50)];
                }
                samePacked("alike " + size, alike, effort);
                samePacked("some " + size, some, effort);
            }
        }
    }

    /** "258 at most, not beyond to (they may go on over p)". */
    private static void longestMatches() {
        for (int size : new int[] {258, 259, 260, 261, 262, 263, 500, 512}) {
            int[] bytes = new int[size];
            for (int effort : new int[] {1, 4, 9}) {
                samePacked("one byte " + size, bytes, effort);
            }
        }
        // one block of some bytes and then the same: 100, a match of 155 from 100 on with the distance 100
        int[] twice = new int[255];
        for (int i = 0; i < 255; i++) {
            twice[i] = i < 100 ? i * 37 & 255 : twice[i - 100];
        }
        samePacked("over p", twice, 1);
        PictureCodingHouse h = next();
        Checks.load(h, 0, new int[260]);
        // fixed: 3, a literal 8, a length of 258 with 8 bits, a distance of 5, one literal, the end 7
        Checks.same("a literal, 258, a literal", 8 + (3 + 8 + 8 + 5 + 8 + 7 + 7) / 8, h.pack(0, 1, 1));
    }

    /** "at most 4 EFFORT that have the same three bytes as p are looked at", "of several the nearest one". */
    private static void placesLookedAt() {
        for (int effort = 1; effort <= 3; effort++) {
            for (int between = 4 * effort - 2; between <= 4 * effort + 1; between++) {
                List<Integer> bytes = new ArrayList<>(List.of(1, 2, 3, 4, 5, 6, 7));
                for (int i = 0; i < between; i++) {
                    bytes.addAll(List.of(1, 2, 3, 100 + i));
                }
                bytes.addAll(List.of(1, 2, 3, 4, 5, 6, 7));
                samePacked("behind " + between, Checks.bytes(bytes), effort);
            }
        }
        samePacked("the nearest", new int[] {1, 2, 3, 4, 9, 1, 2, 3, 4, 8, 1, 2, 3, 4, 7}, 1);
        // the next place has a longer match, or one as long
        samePacked("a longer match at the next place", new int[] {1, 2, 3, 9, 2, 3, 4, 5, 8, 1, 2, 3, 4, 5, 7}, 4);
        samePacked("as long a match at the next place", new int[] {1, 2, 3, 9, 2, 3, 4, 8, 1, 2, 3, 4, 7}, 4);
        samePacked("by greed", new int[] {1, 2, 3, 9, 2, 3, 4, 5, 8, 1, 2, 3, 4, 5, 7}, 3);
    }

    /**
     * Bytes for which one bit more or less would make other blocks, kinds or tokens: equal kinds ("of equal ones the
     * lower"), equal ways to cut ("that with the shorter first block"), prices of 12 for what has no code.
     */
    private static void closeCalls() {
        int[][] seedsAndEfforts = {{403, 7}, {419, 7}, {419, 8}, {804, 8}, {615, 7}, {2074, 8}, {355, 1}, {658, 1},
            {470, 4}, {1484, 1}, {2199, 1}, {298, 8}, {237, 8}, {458, 2}, {225, 4}, {570, 8}, {775, 8}, {3167, 4},
            {8419, 3}, {8709, 1}, {18816, 1}, {19923, 2}, {20638, 1}, {28541, 1}, {28860, 7}, {34404, 2}, {45008, 4}};
        for (int[] one : seedsAndEfforts) {
            samePacked("bytes " + one[0], PacksTest.someBytes(new Random(one[0])), one[1]);
        }
    }

    /** "IllegalState: it has more than 512 bytes." */
    private static void mostBytes() {
        PictureCodingHouse h = next();
        Checks.load(h, 0, new int[513]);
        Checks.refused("513 bytes", IllegalStateException.class, h, () -> h.pack(0, 0, 1));
        h.cut(0, 512);
        Checks.same("512 bytes, stored", 8 + 5 + 512, h.pack(0, 0, 1));
        Checks.read("unpack", h, 512, () -> h.unpack(1, 2));
        Checks.same("into itself", 8 + 5 + 512, h.pack(0, 0, 0));
        Checks.refused("which then has more than 512", IllegalStateException.class, h, () -> h.pack(0, 0, 0));
    }

    // ---- FAULTS 1 and 3

    private static void cutAnywhere() {
        int[] bytes = new int[200];
        for (int i = 0; i < bytes.length; i++) {
            bytes[i] = i < 90 ? i * i & 255 : i % 7 * i % 11;
        }
        for (int effort : new int[] {0, 1, 9}) {
            PictureCodingHouse h = next();
            Checks.load(h, 0, bytes);
            h.pack(0, effort, 1);
            int[] whole = Checks.file(h, 1);
            for (int n = 0; n < whole.length; n++) {
                broken("cut to " + n, Checks.first(whole, n), n < 9 ? 1 : 3, n < 9 ? 0 : n);
            }
        }
    }

    private static String stored(boolean isLast, int... bytes) {
        StringBuilder text = new StringBuilder((isLast ? "1" : "0") + "00" + "00000");
        text.append(low(bytes.length, 16)).append(low(~bytes.length & 0xFFFF, 16));
        for (int b : bytes) {
            text.append(low(b, 8));
        }
        return text.toString();
    }

    /** "fewer than 9 bytes or more than 1208, the first is not 80, or the EFFORT is above 9". */
    private static void fronts() {
        right("1208 bytes", stored(true, new int[1195]), new int[1195]);
        Checks.same("1208 bytes", 1208, house.size(2, 0, 0));
        broken("1209 bytes", file(1196, stored(true, new int[1196]), new int[1196]), 1, 0);
        broken("1500 bytes", file(1487, stored(true, new int[1487]), new int[1487]), 1, 0);
        int[] nine = {80, 0, 0, 0, 0, 0, 0, 0, 1};
        broken("9 bytes", nine, 3, 9);
        broken("8 bytes", Checks.first(nine, 8), 1, 0);
        int[] good = file(1, FIXED + literal(65) + literal(256), new int[] {65});
        for (int first : new int[] {0, 79, 81, 255}) {
            broken("first " + first, Checks.altered(good, 0, first), 1, 0);
        }
        for (int effort = 0; effort < 256; effort++) {
            if (effort <= 9) {
                PictureCodingHouse h = next();
                Checks.load(h, 0, Checks.altered(good, 1, effort));
                Checks.read("effort " + effort, h, 1, () -> h.unpack(0, 1));
            } else if (effort < 12 || effort > 250) {
                broken("effort " + effort, Checks.altered(good, 1, effort), 1, 0);
            }
        }
    }

    // ---- FAULT 2

    /** Fixed blocks of literals of nine bits, that end one bit farther for each: 10 bits and 9 for each. */
    private static String before(int literals) {
        return "010" + literal(200).repeat(literals) + literal(256);
    }

    private static int[] plain(int literals, int... more) {
        int[] bytes = new int[literals];
        Arrays.fill(bytes, 200);
        return Checks.joined(bytes, more);
    }

    /** "a block of kind 3 (its first bit)", wherever in a byte that is. */
    private static void kinds() {
        for (int i = 0; i < 9; i++) {
            String bits = before(i);
            brokenAt("kind 3 behind " + i, bits + "111" + "0".repeat(20), bits.length());
            brokenAt("kind 3, not the last", bits + "011" + "0".repeat(20), bits.length());
            right("kind 1 behind " + i, bits + FIXED + literal(7) + literal(256), plain(i, 7));
            String pad = "0".repeat((8 - (bits.length() + 3) % 8) % 8);
            right("kind 0 behind " + i, bits + "100" + pad + low(1, 16) + low(0xFFFE, 16) + low(9, 8), plain(i, 9));
            right("bits up to a byte are passed over", bits + "100" + pad.replace('0', '1') + low(1, 16) + low(0xFFFE, 16)
                    + low(9, 8), plain(i, 9));
        }
    }

    /** "a stored length whose complement is not behind it". */
    private static void stored() {
        for (int i = 0; i < 9; i++) {
            String bits = before(i) + "100";
            String whole = bits + "0".repeat((8 - bits.length() % 8) % 8);
            for (int bit = 0; bit < 16; bit++) {
                brokenAt("complement bit " + bit, whole + low(1, 16) + low(0xFFFE ^ 1 << bit, 16) + low(9, 8),
                        whole.length());
            }
            tooShort("no length", whole);
            tooShort("half a length", whole + low(1, 8));
            tooShort("no complement", whole + low(1, 16));
            tooShort("half a complement", whole + low(1, 16) + low(0, 8));
            tooShort("no byte", whole + low(1, 16) + low(0xFFFE, 16));
            tooShort("one of two bytes", whole + low(2, 16) + low(0xFFFD, 16) + low(0, 8));
            right("no bytes", whole + low(0, 16) + low(0xFFFF, 16), plain(i));
        }
    }

    /** A front of an OWN block with told numbers of lengths, literals' and distances' lengths as they are. */
    private static String own(int[] literals, int[] distances, int literalsTold, int distancesTold) {
        int[] code = new int[19];
        // five bits for each of the lengths 0 to 15 makes half of all; 16, 17, 18 have the other half
        Arrays.fill(code, 0, 16, 5);
        code[16] = 2;
        code[17] = 3;
        code[18] = 3;
        String[] codes = Checks.codes(code);
        StringBuilder text = new StringBuilder("101" + low(literalsTold - 257, 5) + low(distancesTold - 1, 5) + low(15, 4));
        for (int symbol : PacksTest.ORDER) {
            text.append(low(code[symbol], 3));
        }
        for (int i = 0; i < literalsTold; i++) {
            text.append(codes[i < literals.length ? literals[i] : 0]);
        }
        for (int i = 0; i < distancesTold; i++) {
            text.append(codes[i < distances.length ? distances[i] : 0]);
        }
        return text.toString();
    }

    private static int[] lengths(int size, int... symbolsAndLengths) {
        int[] lengths = new int[size];
        for (int i = 0; i < symbolsAndLengths.length; i += 2) {
            lengths[symbolsAndLengths[i]] = symbolsAndLengths[i + 1];
        }
        return lengths;
    }

    /** "a number of more than 286 lengths, or of more than 30 distances". */
    private static void numbersOfLengths() {
        int[] two = lengths(257, 65, 1, 256, 1);
        String text = "0" + "1";
        for (int told = 257; told <= 286; told += told == 257 ? 28 : 1) {
            right("literals " + told, own(two, lengths(1), told, 1) + text, 65);
        }
        for (int told : new int[] {1, 2, 29, 30}) {
            right("distances " + told, own(two, lengths(1), 257, told) + text, 65);
        }
        for (int i = 0; i < 9; i++) {
            String bits = before(i);
            String rest = "0".repeat(100);
            brokenAt("287 literals", bits + "101" + low(30, 5) + rest, bits.length() + 3);
            brokenAt("288 literals", bits + "101" + low(31, 5) + rest, bits.length() + 3);
            brokenAt("31 distances", bits + "101" + low(29, 5) + low(30, 5) + rest, bits.length() + 8);
            brokenAt("32 distances", bits + "101" + low(0, 5) + low(31, 5) + rest, bits.length() + 8);
            brokenAt("both", bits + "101" + low(31, 5) + low(31, 5) + rest, bits.length() + 3);
        }
        right("all 286 and 30", own(lengths(286, 65, 1, 256, 2, 285, 2), lengths(30, 0, 1, 29, 1), 286, 30)
                + "0" + "11" + "0" + "10", Checks.joined(new int[] {65}, repeated(65, 258)));
    }

    private static int[] repeated(int v, int n) {
        int[] bytes = new int[n];
        Arrays.fill(bytes, v);
        return bytes;
    }

    /** The code of the lengths must be full: told at the block's first bit, when it is there whole. */
    private static void lengthsCode() {
        for (int i = 0; i < 9; i++) {
            String bits = before(i);
            String front = bits + "101" + low(0, 5) + low(0, 5) + low(15, 4);
            String rest = "0".repeat(60);
            int first = bits.length();
            brokenAt("no code", front + low(0, 3).repeat(19) + rest, first);
            brokenAt("one of one bit", front + low(1, 3) + low(0, 3).repeat(18) + rest, first);
            brokenAt("not full", front + low(1, 3) + low(2, 3) + low(0, 3).repeat(17) + rest, first);
            brokenAt("not full by one of seven bits", front + low(1, 3) + low(2, 3) + low(3, 3) + low(4, 3) + low(5, 3)
                    + low(6, 3) + low(7, 3) + low(0, 3).repeat(12) + rest, first);
            brokenAt("over-full", front + low(1, 3).repeat(3) + low(0, 3).repeat(16) + rest, first);
            brokenAt("over-full by one of seven bits", front + low(1, 3).repeat(2) + low(7, 3) + low(0, 3).repeat(16) + rest,
                    first);
            tooShort("not there whole", (front + low(1, 3).repeat(18)).substring(0, (front.length() + 54) / 8 * 8));
        }
        // as few as may be told: 16, 17, 18 and 0, which can tell no length above 0
        String four = "101" + low(0, 5) + low(0, 5) + low(0, 4) + low(2, 3).repeat(4);
        brokenAt("four lengths are told, of zeros", four + "11" + low(127, 7) + "11" + low(119 - 11, 7) + "0".repeat(40), 0);
    }

    private static String[] rowCodes;

    /** An OWN block's front, whose lengths' code has two bits each for 0, 1, 16 and 18. */
    private static String rowFront(int literals, int distances) {
        int[] code = lengths(19, 0, 2, 1, 2, 16, 2, 18, 2);
        rowCodes = Checks.codes(code);
        return PacksTest.ownFront(literals, distances, code);
    }

    private static String zeros(int n) {
        return n <= 138 ? rowCodes[18] + low(n - 11, 7) : rowCodes[18] + low(127, 7) + zeros(n - 138);
    }

    /** "one that goes beyond its end": told at the repeat's code; one that goes just up to it may be. */
    private static void endOfTheRow() {
        for (int i = 0; i < 9; i++) {
            // 255 zeros, two lengths 1: the literals are there whole; then distances
            String bits = before(i);
            String three = bits + rowFront(257, 4) + zeros(255) + rowCodes[1].repeat(2);
            right("zeros by single ones", three + rowCodes[0].repeat(4) + "0" + "1", plain(i, 255));
            // 16 lays three 1 for distances, and the fourth one is 0: over-full
            brokenAt("three distances of one bit", three + rowCodes[16] + "00" + rowCodes[0] + "0".repeat(30), bits.length());
            String four = bits + rowFront(257, 3) + zeros(255) + rowCodes[1].repeat(2);
            brokenAt("four lengths where three are wanted", four + rowCodes[16] + low(1, 2) + "0".repeat(30),
                    four.length());
            brokenAt("eleven zeros where three are wanted", four + rowCodes[18] + low(0, 7) + "0".repeat(30),
                    four.length());
            String eleven = bits + rowFront(257, 11) + zeros(255) + rowCodes[1].repeat(2);
            right("eleven zeros just up to the end", eleven + rowCodes[18] + low(0, 7) + "0" + "1", plain(i, 255));
            brokenAt("twelve zeros, one beyond the end", eleven + rowCodes[18] + low(1, 7) + "0".repeat(30),
                    eleven.length());
            // the literals are not full, and the same repeat goes beyond the row's end
            String wrong = bits + rowFront(257, 1) + zeros(200) + rowCodes[1];
            brokenAt("literals come before the end of the row", wrong + zeros(138) + "0".repeat(30), bits.length());
            // a repeat over both rows
            String over = bits + rowFront(258, 10) + rowCodes[1] + zeros(255) + rowCodes[1];
            right("a repeat over both rows", over + zeros(11) + "0" + "0" + "1", plain(i, 0, 0));
        }
    }

    /** "in the row of lengths a repeat of nothing": 16 at the row's beginning alone. */
    private static void repeats() {
        for (int i = 0; i < 9; i++) {
            String bits = before(i);
            String front = bits + rowFront(257, 1);
            brokenAt("16 at first", front + rowCodes[16] + "00" + "0".repeat(40), front.length());
            // zeros may be repeated by 16, also those that 18 told
            right("16 behind zeros", front + zeros(252) + rowCodes[16] + "00" + rowCodes[1].repeat(2) + rowCodes[0]
                    + "0" + "1", plain(i, 255));
            right("16 behind a single zero", front + rowCodes[0] + rowCodes[16] + "11" + zeros(248) + rowCodes[1].repeat(2)
                    + rowCodes[0] + "0" + "1", plain(i, 255));
        }
    }

    /** "over-full, or not full .., and no length for the end: told at the block's first bit". */
    private static void setsOfLiterals() {
        for (int i = 0; i < 9; i++) {
            String bits = before(i);
            int first = bits.length();
            String rest = "0".repeat(60);
            String one = own(lengths(257, 256, 1), lengths(1), 257, 1);
            brokenAt("the end alone, of one bit", bits + one + rest, first);
            brokenAt("none", bits + own(lengths(257), lengths(1), 257, 1) + rest, first);
            brokenAt("not full", bits + own(lengths(257, 0, 2, 256, 1), lengths(1), 257, 1) + rest, first);
            brokenAt("not full by one of 15 bits", bits + own(almost(257, 14), lengths(1), 257, 1) + rest, first);
            brokenAt("over-full by one of 15 bits", bits + own(lengths(257, 0, 1, 1, 15, 256, 1), lengths(1), 257, 1) + rest,
                    first);
            brokenAt("over-full", bits + own(lengths(257, 0, 1, 1, 1, 256, 1), lengths(1), 257, 1) + rest, first);
            brokenAt("no length for the end", bits + own(lengths(257, 0, 1, 1, 1), lengths(1), 257, 1) + rest, first);
            // wrong distances behind wrong literals: the same fault, at the same place; and no distances are wanted
            String cut = bits + one;
            brokenAt("told with the last literal's length", cut.substring(0, cut.length() - 5), first);
        }
    }

    /** Lengths 1, 2, 3 .. up to most, which is one short of being full; the end has the greatest one. */
    private static int[] almost(int size, int most) {
        int[] lengths = new int[size];
        for (int i = 1; i < most; i++) {
            lengths[i] = i;
        }
        lengths[256] = most;
        return lengths;
    }

    /** "(but for one code of one bit, or none at all, of distances)". */
    private static void setsOfDistances() {
        int[] two = lengths(257, 65, 1, 256, 1);
        for (int i = 0; i < 9; i++) {
            String bits = before(i);
            int first = bits.length();
            String rest = "0".repeat(60);
            right("none", bits + own(two, lengths(30), 257, 30) + "01", plain(i, 65));
            right("one of one bit", bits + own(two, lengths(30, 29, 1), 257, 30) + "01", plain(i, 65));
            right("two of one bit", bits + own(two, lengths(30, 3, 1, 29, 1), 257, 30) + "01", plain(i, 65));
            right("all, of five bits but for two of four", bits + own(two, fives(), 257, 30) + "01", plain(i, 65));
            brokenAt("one of two bits", bits + own(two, lengths(30, 3, 2), 257, 30) + rest, first);
            brokenAt("one of 15 bits", bits + own(two, lengths(30, 3, 15), 257, 30) + rest, first);
            brokenAt("not full", bits + own(two, lengths(30, 3, 1, 4, 2), 257, 30) + rest, first);
            brokenAt("two of two bits", bits + own(two, lengths(30, 3, 2, 4, 2), 257, 30) + rest, first);
            brokenAt("over-full", bits + own(two, lengths(30, 3, 1, 4, 1, 5, 15), 257, 30) + rest, first);
        }
    }

    private static int[] fives() {
        int[] lengths = new int[30];
        Arrays.fill(lengths, 5);
        lengths[0] = 4;
        lengths[1] = 4;
        return lengths;
    }

    /** Codes of 15 bits, of literals and of distances. */
    private static void longestCodes() {
        int[] literals = new int[258];
        for (int i = 1; i <= 13; i++) {
            literals[i] = i;
        }
        literals[0] = 15;
        literals[14] = 15;
        literals[256] = 15;
        literals[257] = 15;
        int[] distances = new int[16];
        for (int i = 1; i <= 15; i++) {
            distances[i - 1] = i;
        }
        distances[15] = 15;
        String[] l = Checks.codes(literals);
        String[] d = Checks.codes(distances);
        // seven bytes, then the distances 5, by symbol 4 with one more bit, and 1, by symbol 0
        right("15 bits", own(literals, distances, 258, 16) + l[0] + l[14] + l[13] + l[1] + l[0] + l[2] + l[14]
                + l[257] + d[4] + "0" + l[257] + d[0] + l[256],
                0, 14, 13, 1, 0, 2, 14, 13, 1, 0, 0, 0, 0);
        // 200 bytes, and the distance 193 by symbol 15 of 15 bits with six more bits
        int[] many = new int[200];
        for (int i = 0; i < 200; i++) {
            many[i] = i % 2 + 1;
        }
        StringBuilder text = new StringBuilder(own(literals, distances, 258, 16));
        for (int b : many) {
            text.append(l[b]);
        }
        text.append(l[257]).append(d[15]).append(low(7, 6)).append(l[256]);
        right("a distance of 15 bits", text.toString(), Checks.joined(many, new int[] {1, 2, 1}));
    }

    /** "a code that no symbol has (without any code: at once)", at the distance's first bit. */
    private static void codesThatNoneHas() {
        int[] literals = lengths(258, 65, 1, 256, 2, 257, 2);
        for (int i = 0; i < 9; i++) {
            String bits = before(i);
            String none = bits + own(literals, lengths(1), 258, 1) + "0" + "11";
            String one = bits + own(literals, lengths(1, 0, 1), 258, 1) + "0" + "11";
            brokenAt("of one code", one + "1" + "0".repeat(30), one.length());
            right("of one code", one + "0" + "10", plain(i, 65, 65, 65, 65));
            brokenAt("of none", none + "0".repeat(30), none.length());
            if (none.length() % 8 == 0) {
                brokenAt("of none, though the bits end", none, none.length());
            }
        }
        // the bits end just behind the length's code, for one number of literals of nine bits
        String front = own(literals, lengths(1), 258, 1);
        for (int i = 0; i < 8; i++) {
            String none = front + "0".repeat(i) + "11";
            if (none.length() % 8 == 0) {
                brokenAt("of none, though the bits end", none, none.length());
                tooShort("of one, and the bits end", own(literals, lengths(1, 0, 1), 258, 1) + "0".repeat(i) + "11");
            }
        }
    }

    /** "a length symbol above 285, a distance symbol above 29". */
    private static void symbolsOfFixedCodes() {
        for (int i = 0; i < 9; i++) {
            String bits = before(i) + FIXED + literal(1);
            for (int symbol : new int[] {286, 287}) {
                brokenAt("length symbol " + symbol, bits + literal(symbol) + "0".repeat(30), bits.length());
            }
            String length = bits + literal(257);
            for (int symbol : new int[] {30, 31}) {
                brokenAt("distance symbol " + symbol, length + Checks.bits(symbol, 5) + "0".repeat(30), length.length());
            }
            brokenAt("distance symbol 29 leads too far", length + Checks.bits(29, 5) + "0".repeat(30), bits.length());
            String extra = bits + literal(284) + "00000";
            brokenAt("behind a length's extra bits", extra + Checks.bits(30, 5) + "0".repeat(30), extra.length());
            right("length symbol 285", bits + literal(285) + "00000" + literal(256),
                    Checks.joined(plain(i, 1), repeated(1, 258)));
            right("length symbol 284 with all its bits", bits + literal(284) + "11111" + "00000" + literal(256),
                    Checks.joined(plain(i, 1), repeated(1, 258)));
        }
    }

    /** "a distance that leads before the first byte (told at the length's code)". */
    private static void beforeTheFirstByte() {
        for (int n : new int[] {1, 2, 4, 5, 6, 7, 12, 100}) {
            String bits = FIXED + literal(9).repeat(n);
            right("the first byte " + n, bits + match(3, n) + literal(256), repeated(9, n + 3));
            brokenAt("before it " + n, bits + match(3, n + 1) + literal(256), bits.length());
            brokenAt("before it, by a long length " + n, bits + match(130, n + 1) + literal(256), bits.length());
        }
        brokenAt("of no bytes", FIXED + match(3, 1) + "0".repeat(9), 3);
        right("a distance over blocks", before(2) + FIXED + match(3, 2) + literal(256), plain(5));
        brokenAt("a distance before all blocks", before(2) + FIXED + match(3, 3) + literal(256), before(2).length() + 3);
    }

    /** Each distance symbol wants its extra bits, all of them and no more, before it is found too far. */
    private static void extraBits() {
        for (int symbol = 0; symbol < 30; symbol++) {
            int extra = symbol < 4 ? 0 : (symbol - 2) / 2;
            int wanted = 0;
            for (int i = 0; i < 8; i++) {
                String bits = "010" + literal(200).repeat(i) + literal(256) + FIXED;
                String whole = bits + literal(257) + Checks.bits(symbol, 5) + "0".repeat(extra);
                if (whole.length() % 8 == 0) {
                    boolean isFar = PacksTest.distanceCode(Math.max(1, i))[0] < symbol || i == 0;
                    if (isFar) {
                        brokenAt("just all bits of " + symbol, whole, bits.length());
                    } else {
                        tooShort("just all bits of " + symbol + ", and no end", whole);
                    }
                    wanted++;
                } else if (whole.length() % 8 == 1) {
                    tooShort("one bit less of " + symbol, whole.substring(0, whole.length() - 1));
                    wanted++;
                }
            }
            Checks.same("both were looked at", 2, wanted);
        }
    }

    /** "or there would be more than 1500 bytes". */
    private static void manyBytes() {
        String most = FIXED + literal(5) + match(258, 1).repeat(5);
        right("1500, by a match", most + match(209, 1) + literal(256), repeated(5, 1500));
        tooShort("1501, by a match", most + match(210, 1) + literal(256));
        tooShort("1501, by a literal", most + match(209, 1) + literal(5) + literal(256));
        right("1500, by a literal", most + match(208, 1) + literal(5) + literal(256), repeated(5, 1500));
        String open = "0" + most.substring(1) + match(200, 1) + literal(256);
        int align = (8 - (open.length() + 3) % 8) % 8;
        String aligned = open + "100" + "0".repeat(align);
        right("1500, stored", aligned + low(9, 16) + low(~9 & 0xFFFF, 16) + low(5, 8).repeat(9), repeated(5, 1500));
        tooShort("1501, stored", aligned + low(10, 16) + low(~10 & 0xFFFF, 16) + low(5, 8).repeat(10));
        // as many tokens as bytes: 1500 codes of one bit
        String single = own(lengths(257, 5, 1, 256, 1), lengths(1), 257, 1);
        right("1500, by literals", single + "0".repeat(1500) + "1", repeated(5, 1500));
        tooShort("1501, by literals", single + "0".repeat(1501) + "1");
        tooShort("1501 before what is behind", most + match(209, 1) + literal(5) + literal(286));
    }

    /** "FAULT 4 (place 2): not as many bytes as told. FAULT 5 (place: the ADLER sum's first byte)". */
    private static void sums() {
        int[] plain = {65, 66, 67};
        int[] good = file(3, FIXED + literal(65) + literal(66) + literal(67) + literal(256), plain);
        int sum = good.length - 4;
        broken("two told", Checks.altered(good, 3, 2), 4, 2);
        broken("four told", Checks.altered(good, 3, 4), 4, 2);
        broken("259 told", Checks.altered(good, 2, 1), 4, 2);
        for (int i = 0; i < 4; i++) {
            broken("sum byte " + i, Checks.altered(good, sum + i, good[sum + i] ^ 1), 5, sum);
            broken("sum byte " + i, Checks.altered(good, sum + i, good[sum + i] ^ 128), 5, sum);
            broken("both, the number first", Checks.altered(Checks.altered(good, 3, 2), sum + i, good[sum + i] ^ 1), 4, 2);
        }
        broken("none told", file(0, FIXED + literal(65) + literal(256), new int[] {65}), 4, 2);
        // sums that go over 65521: 1500 bytes of 255
        right("a great sum", FIXED + literal(255) + match(258, 1).repeat(5) + match(209, 1) + literal(256),
                repeated(255, 1500));
    }

    /** "(Bits behind the end are not looked at.)" */
    private static void behindTheEnd() {
        String bits = FIXED + literal(65) + literal(256);
        for (int more = 1; more <= 30; more++) {
            right("more bits", bits + "1".repeat(more), 65);
        }
        right("another block", bits + "111" + "0".repeat(30), 65);
        right("more behind a stored one", stored(true, 65) + "1".repeat(24), 65);
        // the last bit of the end's code is wanted: it is not taken from the sum
        for (int i = 0; i < 9; i++) {
            String end = "010" + literal(200).repeat(i) + literal(256) + FIXED;
            String whole = end + literal(256);
            if (whole.length() % 8 == 1) {
                tooShort("one bit is not there", whole.substring(0, whole.length() - 1));
            }
        }
    }
}
