import java.util.Random;

/** Promises 7 and 8, and 3 WAVES: lifting at the ends of rows, files cut at each bit, each FAULT of the HEAD. */
public final class WaveEdgesTest {
    // the squares of 8, 4, 2 and 1 samples of one sample
    private static final String OPEN = "1111";
    private static PictureCodingHouse house = new PictureCodingHouse();

    public static void main(String[] args) {
        liftedByHand();
        gapsOfOnePart();
        cutAtEachBit();
        planes();
        headsWhole();
        runs();
        planesRead();
        sizes();
        knownByBits();
        broughtInRange();
        oneBehindTheOther();
        Checks.end();
    }

    private static PictureCodingHouse next() {
        if (house.told(0) > 280) {
            house = new PictureCodingHouse();
            house.picture(7, 2, 2);
        }
        return house;
    }

    private static void draw(int k, int... row) {
        Checks.draw(next(), k, new int[][] {row});
    }

    private static void sameWaves(String what, int k, int... due) {
        for (int x = 0; x < due.length; x++) {
            PictureCodingHouse h = next();
            Checks.same(what + " at " + x, due[x], h.wave(k, x, 0));
        }
    }

    /** "If one of these two is not there, the other one counts twice; if neither is, the point stays." */
    private static void liftedByHand() {
        house.picture(7, 2, 2);
        draw(0, 77);
        sameWaves("one point stays", 0, 77);
        draw(0, 10, 13);
        // 13 less 10; 10 and (3 twice and 2) by 4
        sameWaves("two points", 0, 12, 3);
        draw(0, 10, 7);
        // 7 less 10 is -3; 10 and (-6 and 2) by 4, which is -1
        sameWaves("rounded down below 0", 0, 9, -3);
        draw(0, 9, 0, 8);
        // 0 less 17 by 2; 9 and -14 by 4, rounded down, 8 likewise; by step 2: 4 less 5, then 5 and 0 by 4
        sameWaves("three points", 0, 5, -8, -1);
        draw(0, 0, 9, 4, 6);
        next().shape(0, 0, 0, 1, false);
        // places 1, 2, 3: 9 less 4, 6 less 4; 4 and 9 by 4; by step 2 the point at 2 stands alone
        sameWaves("from an odd place on", 0, 100000, 5, 6, 2);
        // a column is lifted likewise
        PictureCodingHouse h = next();
        Checks.draw(h, 0, new int[][] {{10}, {7}});
        Checks.same("a column", -3, h.wave(0, 0, 1));
        Checks.same("a column", 9, h.wave(0, 0, 0));
        Checks.draw(h, 0, new int[][] {{0, 0}, {0, 8}});
        // the second row: 8, then 0 and 18 by 4, which is 4; then columns: 8 less 0, 0 and 18 by 4; 4 less 0, 0 and 10 by 4
        Checks.same("rows before columns", 8, h.wave(0, 1, 1));
        Checks.same("rows before columns", 4, h.wave(0, 0, 1));
        Checks.same("rows before columns", 4, h.wave(0, 1, 0));
        Checks.same("rows before columns", 2, h.wave(0, 0, 0));
    }

    /** Points that are a step apart are one row, if they are of one PART, also with something outside between them. */
    private static void gapsOfOnePart() {
        PictureCodingHouse h = next();
        Checks.draw(h, 0, new int[][] {{40, 99, 80}, {0, 0, 0}});
        h.shape(0, 1, 0, 1, false);
        // by step 1 rows 0 stay; columns: 0 less 40 is -40, 40 and (-80 and 2) by 4, rounded down -20: 20; likewise 80: 40
        // by step 2: 40 less 20, then 20 and 42 by 4
        Checks.same("of one part", 20, h.wave(0, 2, 0));
        Checks.same("of one part", 30, h.wave(0, 0, 0));
        h.shape(0, 1, 1, 1, false);
        Checks.same("of two parts", 40, h.wave(0, 2, 0));
        Checks.same("of two parts", 20, h.wave(0, 0, 0));
        Checks.same("outside, though it has a sample", 100000, h.wave(0, 1, 0));
    }

    /** "CUT it ends behind so many bits (or all); the last byte is filled with 0." */
    private static void cutAtEachBit() {
        PictureCodingHouse h = new PictureCodingHouse();
        h.picture(0, 3, 3);
        h.put(0, 0, 1, 2, 9);
        h.shape(0, 2, 2, 1, false);
        int bytes = h.waves(0, 60000, 0);
        int all = h.unwave(0, 60000, 1);
        Checks.same("all bits", (all + 7) / 8, bytes);
        int[] whole = Checks.file(h, 0);
        for (int bits = 0; bits <= all + 2; bits++) {
            int[] due = Checks.first(whole, (Math.min(bits, all) + 7) / 8);
            if (bits % 8 != 0 && bits < all) {
                due[bits / 8] &= 0xFF00 >> bits % 8;
            }
            Checks.same("cut behind " + bits, due.length, h.waves(0, bits, 2));
            Checks.same("cut behind " + bits, due, Checks.file(h, 2));
        }
        Checks.same("no bits are an empty file", 0, h.waves(0, 0, 2));
    }

    /** "as many bits as the greatest WAVE without its sign has": none for 0. */
    private static void planes() {
        int[][] cases = {{0, 0}, {1, 1}, {2, 2}, {3, 2}, {4, 3}, {127, 7}, {128, 8}, {255, 8}};
        for (int[] one : cases) {
            PictureCodingHouse h = next();
            h.picture(0, 1, 1);
            h.put(0, 0, 0, 1, one[0]);
            h.waves(0, 60000, 0);
            Checks.same("planes of " + one[0], one[1], h.byteAt(0, 1) >> 3);
            int bits = h.unwave(0, 60000, 1);
            // squares of 8, 4, 2 and 1 samples become open, then come the sign and the bits of lower planes
            Checks.same("bits of " + one[0], 17 + (one[0] == 0 ? 0 : 4 + 1 + one[1] - 1), bits);
            Checks.same("sample", one[0], h.at(1, 0, 0));
        }
        PictureCodingHouse h = next();
        // -200 without its sign has eight bits, too
        Checks.draw(h, 0, new int[][] {{200, 0}});
        h.waves(0, 60000, 0);
        Checks.same("planes of -200", 8, h.byteAt(0, 1) >> 3);
        h.shape(0, 0, 0, 2, false);
        h.waves(0, 60000, 0);
        Checks.same("planes of none inside", 0, h.byteAt(0, 1) >> 3);
        Checks.same("the head is all", 2, h.size(2, 0, 0));
    }

    private static void broken(String what, String bits, int limit, int number) {
        PictureCodingHouse h = next();
        Checks.load(h, 0, Checks.packed(bits));
        Checks.broken(what, h, number, 0, () -> h.unwave(0, limit, 7));
    }

    private static void right(String what, String bits, int limit, int taken) {
        PictureCodingHouse h = next();
        Checks.load(h, 0, Checks.packed(bits));
        Checks.read(what, h, taken, () -> h.unwave(0, limit, 6));
    }

    /** "the HEAD is not there whole (in so many bits)": each bit of it is wanted, and none behind it. */
    private static void headsWhole() {
        String head = WavesTest.head(3, 2, 4) + Checks.counted(2) + Checks.counted(4) + Checks.counted(3);
        String all = head + "1".repeat(40);
        for (int limit = 0; limit < head.length(); limit++) {
            broken("in " + limit + " bits", all, limit, 1);
        }
        right("in just so many", all, head.length(), head.length());
        Checks.same("inside", 3, house.size(0, 6, 2));
        Checks.samePicture("nothing is known", house, 6, new int[2][3]);
        for (int bits = 0; bits + 8 <= head.length(); bits += 8) {
            broken("a file of " + bits, all.substring(0, bits), 60000, 1);
        }
        // 13 bits, 1, 00101: 19 bits; a byte less ends in the last run
        String one = WavesTest.head(2, 2, 0) + "1" + Checks.counted(5);
        broken("a byte less", one.substring(0, 16), 60000, 1);
        right("a byte more", one + "00000" + "11111111", 60000, 19);
    }

    /** "a run of none but the first, 17 or more bits 0 before a run, or runs that go beyond the last sample". */
    private static void runs() {
        String head = WavesTest.head(2, 2, 0);
        String rest = "1".repeat(60);
        right("a first run of none", head + "1" + Checks.counted(5), 60000, 13 + 1 + 5);
        broken("a second run of none", head + Checks.counted(2) + "1" + rest, 60000, 1);
        broken("a third run of none", head + Checks.counted(2) + Checks.counted(3) + "1" + rest, 60000, 1);
        broken("a second run of none behind a first one", head + "1" + "1" + rest, 60000, 1);
        right("runs up to the last sample", head + Checks.counted(2) + Checks.counted(4), 60000, 13 + 3 + 5);
        broken("one beyond the last sample", head + Checks.counted(2) + Checks.counted(5) + rest, 60000, 1);
        right("one run to the end", head + Checks.counted(5), 60000, 13 + 5);
        broken("one run beyond the end", head + Checks.counted(6) + rest, 60000, 1);
        right("four runs", head + Checks.counted(2).repeat(4), 60000, 13 + 12);
        broken("16 bits 0 are beyond the last sample", head + "0".repeat(16) + rest, 60000, 1);
        broken("17 bits 0", head + "0".repeat(17) + rest, 60000, 1);
        broken("17 bits 0, and no more", head + "0".repeat(17), 60000, 1);
        broken("the last run is not there", head + Checks.counted(4), 60000, 1);
    }

    private static void planesRead() {
        String runs = "1" + Checks.counted(2);
        for (int planes = 0; planes < 32; planes++) {
            String bits = WavesTest.head(1, 1, planes) + runs + "10" + "0".repeat(30);
            if (planes <= 20) {
                right("planes " + planes, bits, 60000, planes == 0 ? 17 : 17 + 1 + planes);
            } else {
                broken("planes " + planes, bits, 60000, 1);
            }
        }
        broken("more planes, and the runs are not there", WavesTest.head(1, 1, 21), 60000, 1);
    }

    /** "FAULT 2 (0): width or height above 12", behind FAULT 1. */
    private static void sizes() {
        for (int side = 1; side <= 16; side++) {
            String wide = WavesTest.head(side, 1, 0) + Checks.counted(side + 1);
            String high = WavesTest.head(1, side, 0) + Checks.counted(side + 1);
            if (side <= 12) {
                right("width " + side, wide, 60000, wide.length());
                Checks.same("width", side, house.size(0, 6, 0));
                right("height " + side, high, 60000, high.length());
                Checks.same("height", side, house.size(0, 6, 1));
            } else {
                broken("width " + side, wide, 60000, 2);
                broken("height " + side, high, 60000, 2);
                broken("width, but its run is too long", WavesTest.head(side, 1, 0) + Checks.counted(side + 2), 60000, 1);
                broken("width, but there are 21 planes", WavesTest.head(side, 1, 21) + Checks.counted(side + 1), 60000, 1);
                broken("width, but the head is not whole", wide, wide.length() - 1, 1);
            }
        }
        String great = WavesTest.head(16, 16, 3) + "1" + Checks.counted(257);
        broken("16 times 16", great + "1".repeat(99), 60000, 2);
    }

    /** "0, till its SIGN is there; then the bits that are there, others 0, and the SIGN". */
    private static void knownByBits() {
        // one sample, 5 planes: in the highest one 0, then four squares open and the sign, then bits 1, 0, 1
        String bits = WavesTest.head(1, 1, 5) + "1" + Checks.counted(2) + "0" + OPEN + "0" + "1" + "0" + "1" + "1111";
        int[] due = {0, 0, 0, 0, 0, 0, 8, 12, 12, 13, 13, 13};
        for (int i = 0; i < due.length; i++) {
            right("by " + i + " bits", bits, 17 + i, Math.min(17 + i, 26));
            Checks.same("known by " + i + " bits", due[i], house.at(6, 0, 0));
        }
        right("by all that the file has", bits.substring(0, 24), 60000, 24);
        Checks.same("by all that the file has", 12, house.at(6, 0, 0));
        right("below 0", WavesTest.head(1, 1, 5) + "1" + Checks.counted(2) + "0" + OPEN + "1" + "1", 24, 24);
        Checks.same("below 0 is brought to 0", 0, house.at(6, 0, 0));
    }

    private static void broughtInRange() {
        String head = WavesTest.head(1, 1, 9) + "1" + Checks.counted(2);
        right("511", head + OPEN + "0" + "11111111", 60000, 30);
        Checks.same("511 is brought to 255", 255, house.at(6, 0, 0));
        right("256", head + OPEN + "0" + "00000000", 60000, 30);
        Checks.same("256 is brought to 255", 255, house.at(6, 0, 0));
        right("255", WavesTest.head(1, 1, 8) + "1" + Checks.counted(2) + OPEN + "0" + "1111111", 60000, 29);
        Checks.same("255 stays", 255, house.at(6, 0, 0));
        right("-1", WavesTest.head(1, 1, 1) + "1" + Checks.counted(2) + OPEN + "1", 60000, 22);
        Checks.same("-1 is brought to 0", 0, house.at(6, 0, 0));
        right("1", WavesTest.head(1, 1, 1) + "1" + Checks.counted(2) + OPEN + "0", 60000, 22);
        Checks.same("1 stays", 1, house.at(6, 0, 0));
    }

    /** Many pictures by one house: squares that were open for one are not for the next. */
    private static void oneBehindTheOther() {
        Random random = new Random(17);
        for (int run = 0; run < 400; run++) {
            PictureCodingHouse h = next();
            int w = 1 + random.nextInt(12);
            int high = 1 + random.nextInt(12);
            Checks.draw(h, 0, Checks.greys(random, w, high, 255));
            Checks.mask(h, 0, Checks.maskOf(random, w, high));
            h.waves(0, 60000, 0);
            Checks.holds("unwave", h.unwave(0, 60000, 1) > 13);
            for (int y = 0; y < high; y++) {
                for (int x = 0; x < w; x++) {
                    boolean inside = h.isInside(0, x, y);
                    Checks.holds("inside", inside == h.isInside(1, x, y));
                    Checks.same("sample", inside ? h.at(0, x, y) : 0, h.at(1, x, y));
                }
            }
        }
    }
}
