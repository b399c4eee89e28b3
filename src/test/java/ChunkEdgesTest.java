import java.util.Arrays;

/** Promises 8 and 9, and 4 CHUNKS: lengths, letters, orders and values on both sides of their bounds. */
public final class ChunkEdgesTest {
    private static final int[] NONE = {};
    private static final int[] HEAD = ChunksTest.head(1, 1, 8, 0);
    private static final int[] COLOURS = ChunksTest.head(1, 1, 8, 2);
    private static final int[] INDEXED = ChunksTest.head(1, 1, 8, 3);
    private static final int[] DATA = ChunksTest.chunk("IDAT", 0, 7);
    private static final int[] COLOUR_DATA = ChunksTest.chunk("IDAT", 0, 7, 7, 7);
    private static final int[] ENTRY_DATA = ChunksTest.chunk("IDAT", 0, 0);
    private static final int[] ENTRY = ChunksTest.chunk("PLTE", 10, 20, 30);
    private static final int[] END = ChunksTest.chunk("IEND");
    private static PictureCodingHouse house = new PictureCodingHouse();

    public static void main(String[] args) {
        pieces();
        fewestBits();
        cutAnywhere();
        front();
        lengths();
        letters();
        sums();
        leftOut();
        firstChunk();
        behindData();
        twice();
        palettesInOrder();
        dataInOrder();
        unknown();
        heads();
        gammas();
        colours();
        scales();
        palettes();
        alphas();
        extras();
        ends();
        rows();
        filled();
        beyondThePalette();
        samples();
        counted();
        Checks.end();
    }

    private static PictureCodingHouse next() {
        if (house.told(0) > 280) {
            house = new PictureCodingHouse();
        }
        if (house.size(0, 3, 0) < 0) {
            house.picture(3, 2, 3);
            house.put(3, 0, 0, 2, 50);
        }
        return house;
    }

    private static void broken(String what, int number, int place, int[]... chunks) {
        PictureCodingHouse h = next();
        Checks.load(h, 0, ChunksTest.whole(chunks));
        Checks.broken(what, h, number, place, () -> h.unchunk(0, 3));
    }

    /** The chunk with that number, from 0 on, is the wrong one; those behind it are there, too. */
    private static void wrong(String what, int number, int which, int[]... chunks) {
        int place = 8;
        for (int i = 0; i < which; i++) {
            place += chunks[i].length;
        }
        broken(what, number, place, chunks);
    }

    private static void right(String what, int count, int[]... chunks) {
        PictureCodingHouse h = next();
        Checks.load(h, 0, ChunksTest.whole(chunks));
        Checks.read(what, h, count, () -> h.unchunk(0, 5));
    }

    private static int[] chunk(String letters, int... data) {
        return ChunksTest.chunk(letters, data);
    }

    /** A chunk whose SUM is wrong. */
    private static int[] spoiled(int[] chunk) {
        return Checks.altered(chunk, chunk.length - 1, chunk[chunk.length - 1] ^ 1);
    }

    private static int[] four(long v) {
        return new int[] {(int) (v >> 24 & 255), (int) (v >> 16 & 255), (int) (v >> 8 & 255), (int) (v & 255)};
    }

    // ---- writing

    /** "cut into chunks of 60 bytes, the last one what is left". */
    private static void pieces() {
        int[][] cases = {{58, 1}, {4, 12}, {5, 12}, {9, 12}, {10, 12}, {11, 5}, {12, 12}, {1, 1}};
        for (int[] one : cases) {
            int width = Math.min(12, one[0]);
            int height = one[1];
            PictureCodingHouse h = next();
            h.picture(0, width, height);
            h.put(0, 0, 0, 1, 1);
            int bytes = h.chunks(0, 1);
            int all = height * (1 + width);
            int place = 8 + 25;
            int left = all;
            while (left > 0) {
                int due = Math.min(60, left);
                Checks.same("a piece of " + all, due, h.byteAt(1, place + 3));
                Checks.same("letters", 'I' << 8 | 'D', h.byteAt(1, place + 4) << 8 | h.byteAt(1, place + 5));
                left -= due;
                place += 12 + due;
            }
            Checks.same("then the end", 12, bytes - place);
            Checks.same("no byte of data", 0, h.byteAt(1, place + 3));
        }
    }

    /** "the fewest BITS of 1, 2, 4, 8 for which each sample is a whole number times ..". */
    private static void fewestBits() {
        int[][] cases = {{1, 0}, {1, 255}, {1, 0, 255}, {2, 85}, {2, 170}, {2, 0, 85, 255}, {4, 17}, {4, 34, 85}, {4, 238},
            {4, 255, 0, 17}, {8, 1}, {8, 254}, {8, 84}, {8, 86}, {8, 16}, {8, 18}, {8, 17, 85, 254}, {8, 0, 0, 3}};
        for (int[] one : cases) {
            PictureCodingHouse h = next();
            int[] row = Arrays.copyOfRange(one, 1, one.length);
            Checks.draw(h, 0, new int[][] {row});
            h.chunks(0, 1);
            Checks.same("bits of " + Arrays.toString(row), one[0], h.byteAt(1, 24));
            Checks.same("grey", 0, h.byteAt(1, 25));
            Checks.read("unchunk", h, 3, () -> h.unchunk(1, 5));
            Checks.samePicture("unchunk", h, 5, new int[][] {row});
            h.shape(0, 0, 0, 1, false);
            h.chunks(0, 1);
            Checks.same("eight bits, if it is not wholly inside", 8, h.byteAt(1, 24));
            Checks.same("with alpha", 4, h.byteAt(1, 25));
            Checks.read("unchunk", h, 3, () -> h.unchunk(1, 5));
            Checks.holds("outside", !h.isInside(5, 0, 0));
        }
    }

    // ---- 1 CUT, 2 LENGTH, 3 LETTERS, 4 SUM

    private static void cutAnywhere() {
        int[][] chunks = {INDEXED, chunk("gAMA", 0, 0, 0, 1), ENTRY, spoiled(chunk("exTr", 1, 2)), ENTRY_DATA, END};
        int[] whole = ChunksTest.whole(chunks);
        right("whole", 5, chunks);
        int place = 0;
        int which = 0;
        for (int n = 0; n < whole.length; n++) {
            if (n == 8) {
                place = 8;
            } else if (n > 8 && n == place + chunks[which].length) {
                place = n;
                which++;
            }
            PictureCodingHouse h = next();
            Checks.load(h, 0, Checks.first(whole, n));
            Checks.broken("cut to " + n, h, 1, place, () -> h.unchunk(0, 3));
        }
    }

    private static void front() {
        int[] whole = ChunksTest.whole(HEAD, DATA, END);
        for (int i = 0; i < 8; i++) {
            PictureCodingHouse h = next();
            Checks.load(h, 0, Checks.altered(whole, i, whole[i] ^ 1));
            Checks.broken("front " + i, h, 1, 0, () -> h.unchunk(0, 3));
        }
    }

    /** "more than 255 bytes of data, as a number without sign; then 1 again". */
    private static void lengths() {
        int[] rows = new int[12 * 49];
        int[] great = ChunksTest.head(12, 12, 8, 6);
        right("255 bytes", 5, great, chunk("IDAT", Checks.first(rows, 255)), chunk("IDAT", Checks.first(rows, 255)),
                chunk("IDAT", Checks.first(rows, 78)), END);
        wrong("256 bytes", 2, 1, great, chunk("IDAT", Checks.first(rows, 256)), chunk("IDAT", Checks.first(rows, 255)),
                chunk("IDAT", Checks.first(rows, 77)), END);
        for (int i = 0; i < 3; i++) {
            wrong("length byte " + i, 2, 1, HEAD, Checks.altered(DATA, i, 1), END);
            wrong("length byte " + i, 2, 1, HEAD, Checks.altered(DATA, i, 128), END);
        }
        wrong("all ones", 2, 1, HEAD, Checks.joined(four(-1), chunk("IDAT")), END);
        wrong("before its letters", 2, 1, HEAD, Checks.altered(Checks.altered(DATA, 2, 1), 4, 1), END);
        wrong("of a first one", 2, 0, Checks.altered(HEAD, 2, 1), DATA, END);
        wrong("255, which are not there", 1, 1, HEAD, Checks.altered(DATA, 3, 255), END);
        wrong("not there, before its letters", 1, 1, HEAD, Checks.altered(Checks.altered(DATA, 3, 255), 4, 1), END);
        wrong("eleven bytes, before its length", 1, 1, HEAD, Checks.first(Checks.altered(DATA, 0, 1), 11));
        wrong("twelve bytes", 2, 1, HEAD, Checks.first(Checks.altered(DATA, 0, 1), 12));
    }

    /** "others than A .. Z, a .. z, or the third is small". */
    private static void letters() {
        for (int i = 0; i < 4; i++) {
            for (int letter : new int[] {'@', '[', '`', '{', 0, 255, '0', 'A', 'Z', 'a', 'z'}) {
                char[] letters = "exTr".toCharArray();
                letters[i] = (char) letter;
                int[] extra = chunk(new String(letters), 1);
                boolean isSmall = letter == 'a' || letter == 'z';
                boolean isGreat = letter == 'A' || letter == 'Z';
                if (!isSmall && !isGreat || isSmall && i == 2) {
                    wrong("letter " + i + " " + letter, 3, 1, HEAD, extra, DATA, END);
                    wrong("before its sum", 3, 1, HEAD, spoiled(extra), DATA, END);
                    wrong("before its order", 3, 0, extra, HEAD, DATA, END);
                } else if (i == 0 && isGreat) {
                    wrong("a great first letter", 6, 1, HEAD, extra, DATA, END);
                } else {
                    right("letter " + i + " " + letter, 4, HEAD, extra, DATA, END);
                }
            }
        }
    }

    /** "it is wrong, and the first letter is great (a chunk whose first letter is small is LEFT OUT then)". */
    private static void sums() {
        int[][][] files = {{HEAD, DATA, END}, {INDEXED, ENTRY, ENTRY_DATA, END}};
        for (int[][] file : files) {
            for (int which = 0; which < file.length; which++) {
                for (int i = 8; i < file[which].length; i++) {
                    int[][] other = file.clone();
                    other[which] = Checks.altered(file[which], i, file[which][i] ^ 128);
                    wrong("a byte of data or sum", 4, which, other);
                }
            }
        }
        wrong("before its order", 4, 0, spoiled(DATA), HEAD, DATA, END);
        wrong("before its value", 4, 0, spoiled(ChunksTest.head(0, 0, 8, 0)), DATA, END);
        wrong("though it is unknown", 4, 1, HEAD, spoiled(chunk("EXTR")), DATA, END);
        for (String letters : new String[] {"gAMA", "sRGB", "pHYs", "tRNS", "exTr"}) {
            right("left out, whatever it has", 3, HEAD, spoiled(chunk(letters, 9, 9, 9, 9, 9)), DATA, END);
        }
    }

    private static void leftOut() {
        int[] out = spoiled(chunk("exTr", new int[41]));
        right("before the first, too long, and seven of them", 3, out, out, HEAD, out, out, out, out, out, DATA, out, END);
        int[] extra = chunk("exTr");
        right("they are no EXTRAS", 9, HEAD, out, extra, extra, extra, out, extra, extra, extra, DATA, END);
        int[] gamma = chunk("gAMA", 0, 0, 0, 1);
        right("one that is left out was not there", 4, HEAD, spoiled(gamma), gamma, spoiled(gamma), DATA, END);
        right("left out behind data", 3, HEAD, DATA, spoiled(gamma), END);
        int[] alphas = chunk("tRNS", 9);
        right("left out before the palette", 5, INDEXED, spoiled(alphas), ENTRY, alphas, ENTRY_DATA, END);
        wrong("255 bytes at most of it, too", 2, 1, HEAD, Checks.altered(out, 2, 1), DATA, END);
        wrong("it is not there", 1, 2, HEAD, DATA, Checks.first(out, 40));
    }

    // ---- 5 ORDER, 6 UNKNOWN

    private static void firstChunk() {
        for (int[] first : new int[][] {DATA, END, ENTRY, chunk("exTr"), chunk("gAMA", 0, 0, 0, 1), chunk("sRGB", 0),
            chunk("tRNS", 1), chunk("EXTR"), chunk("exTr", new int[41])}) {
            wrong("the first one is not IHDR", 5, 0, first, HEAD, DATA, END);
        }
        wrong("a later one is", 5, 1, HEAD, HEAD, DATA, END);
        wrong("a later one is", 5, 2, HEAD, chunk("exTr"), HEAD, DATA, END);
        wrong("a later one is", 5, 2, HEAD, DATA, HEAD, END);
        wrong("a later one is, of another length", 5, 1, HEAD, chunk("IHDR"), DATA, END);
        right("behind one that is left out", 3, spoiled(chunk("exTr")), HEAD, DATA, END);
    }

    private static void behindData() {
        int[] gamma = chunk("gAMA", 0, 0, 0, 1);
        int[] colour = chunk("sRGB", 0);
        int[] scale = chunk("pHYs", 0, 0, 0, 1, 0, 0, 0, 1, 1);
        int[] alphas = chunk("tRNS", 1);
        for (int[] one : new int[][] {gamma, colour, scale}) {
            right("before data", 4, HEAD, one, DATA, END);
            wrong("behind data", 5, 2, HEAD, DATA, one, END);
            wrong("behind data, with a wrong value", 5, 2, HEAD, DATA, chunk(new String(new char[] {(char) one[4],
                (char) one[5], (char) one[6], (char) one[7]})), END);
        }
        right("palette before data", 4, COLOURS, ENTRY, COLOUR_DATA, END);
        wrong("palette behind data", 5, 2, COLOURS, COLOUR_DATA, ENTRY, END);
        right("alphas before data", 5, INDEXED, ENTRY, alphas, ENTRY_DATA, END);
        wrong("alphas behind data", 5, 3, INDEXED, ENTRY, ENTRY_DATA, alphas, END);
        right("an extra behind data", 4, HEAD, DATA, chunk("exTr"), END);
        right("an empty data chunk is data", 4, HEAD, chunk("IDAT"), DATA, END);
        wrong("behind an empty data chunk", 5, 2, HEAD, chunk("IDAT"), gamma, DATA, END);
    }

    private static void twice() {
        int[] gamma = chunk("gAMA", 0, 0, 0, 1);
        int[] colour = chunk("sRGB", 0);
        int[] scale = chunk("pHYs", 0, 0, 0, 1, 0, 0, 0, 1, 1);
        int[] alphas = chunk("tRNS", 1);
        wrong("gamma", 5, 2, HEAD, gamma, gamma, DATA, END);
        wrong("gamma, not one behind the other", 5, 3, HEAD, gamma, colour, gamma, DATA, END);
        wrong("colour", 5, 2, HEAD, colour, colour, DATA, END);
        wrong("scale", 5, 2, HEAD, scale, scale, DATA, END);
        wrong("scale, the second of another length", 5, 2, HEAD, scale, chunk("pHYs"), DATA, END);
        wrong("palette", 5, 2, COLOURS, ENTRY, ENTRY, COLOUR_DATA, END);
        wrong("palette, for entries", 5, 2, INDEXED, ENTRY, ENTRY, ENTRY_DATA, END);
        wrong("alphas", 5, 3, INDEXED, ENTRY, alphas, alphas, ENTRY_DATA, END);
        right("one of each", 8, INDEXED, scale, colour, gamma, ENTRY, alphas, ENTRY_DATA, END);
    }

    private static void palettesInOrder() {
        int[] gamma = chunk("gAMA", 0, 0, 0, 1);
        int[] colour = chunk("sRGB", 0);
        right("gamma and colour before the palette", 6, COLOURS, gamma, colour, ENTRY, COLOUR_DATA, END);
        wrong("gamma behind it", 5, 2, COLOURS, ENTRY, gamma, COLOUR_DATA, END);
        wrong("colour behind it", 5, 2, COLOURS, ENTRY, colour, COLOUR_DATA, END);
        right("scale behind it", 5, COLOURS, ENTRY, chunk("pHYs", 0, 0, 0, 1, 0, 0, 0, 1, 1), COLOUR_DATA, END);
        right("an extra behind it", 5, COLOURS, ENTRY, chunk("exTr"), COLOUR_DATA, END);
        wrong("alphas before it", 5, 1, INDEXED, chunk("tRNS", 1), ENTRY, ENTRY_DATA, END);
        wrong("a palette for kind 0", 5, 1, HEAD, ENTRY, DATA, END);
        wrong("a palette for kind 4", 5, 1, ChunksTest.head(1, 1, 8, 4), ENTRY, chunk("IDAT", 0, 7, 7), END);
        right("a palette for kind 6", 4, ChunksTest.head(1, 1, 8, 6), ENTRY, chunk("IDAT", 0, 7, 7, 7, 7), END);
        wrong("data of kind 3 before it", 5, 1, INDEXED, ENTRY_DATA, ENTRY, END);
        right("data of kind 2 without one", 3, COLOURS, COLOUR_DATA, END);
    }

    private static void dataInOrder() {
        int[] first = chunk("IDAT", 0);
        int[] second = chunk("IDAT", 7);
        int[] extra = chunk("exTr");
        right("one behind the other", 5, HEAD, first, chunk("IDAT"), second, END);
        wrong("behind another chunk", 5, 3, HEAD, first, extra, second, END);
        wrong("behind one that is left out", 5, 3, HEAD, first, spoiled(extra), second, END);
        right("another chunk before all of them", 5, HEAD, extra, first, second, END);
        right("one that is left out before all of them", 4, HEAD, spoiled(extra), first, second, END);
        wrong("the end before data", 5, 1, HEAD, END, DATA, END);
        wrong("the end before data, with bytes", 5, 1, HEAD, chunk("IEND", 1), DATA, END);
    }

    private static void unknown() {
        wrong("a great first letter", 6, 1, HEAD, chunk("EXTR"), DATA, END);
        wrong("of 255 bytes", 6, 1, HEAD, chunk("EXTR", new int[255]), DATA, END);
        for (String near : new String[] {"IDAU", "IDBT", "IEND".replace('D', 'E'), "PLTF", "IHDS", "GAMA", "SRGB", "PHYs",
            "TRNS", "IDAt"}) {
            wrong("not quite " + near, 6, 1, HEAD, chunk(near), DATA, END);
        }
        for (String near : new String[] {"iDAT", "iHDR", "iEND", "pLTE", "gAMB", "sRGC", "pHYS", "tRNs"}) {
            right("not quite, but small " + near, 4, HEAD, chunk(near, 1, 2, 3), DATA, END);
        }
    }

    // ---- 7 VALUE

    private static void heads() {
        int[] good = {0, 0, 0, 1, 0, 0, 0, 1, 8, 0, 0, 0, 0};
        wrong("12 bytes", 7, 0, chunk("IHDR", Checks.first(good, 12)), DATA, END);
        wrong("14 bytes", 7, 0, chunk("IHDR", Checks.first(good, 14)), DATA, END);
        wrong("none", 7, 0, chunk("IHDR"), DATA, END);
        for (int at : new int[] {0, 4}) {
            for (long side : new long[] {0, 13, 256 + 1, 65536 + 1, 0x80000001L, 0xFFFFFFFFL}) {
                int[] other = good.clone();
                System.arraycopy(four(side), 0, other, at, 4);
                wrong("side " + side, 7, 0, chunk("IHDR", other), DATA, END);
            }
        }
        for (int side : new int[] {1, 12}) {
            right("width " + side, 3, ChunksTest.head(side, 1, 8, 0), chunk("IDAT", new int[1 + side]), END);
            Checks.same("width " + side, side, house.size(0, 5, 0));
            right("height " + side, 3, ChunksTest.head(1, side, 8, 0), chunk("IDAT", new int[2 * side]), END);
            Checks.same("height " + side, side, house.size(0, 5, 1));
        }
        for (int at = 10; at <= 12; at++) {
            wrong("0, 0, 0", 7, 0, chunk("IHDR", Checks.altered(good, at, 1)), DATA, END);
        }
        int[] channels = {1, 0, 3, 1, 2, 0, 4};
        for (int kind = 0; kind <= 8; kind++) {
            for (int bits = 0; bits <= 17; bits++) {
                boolean isFew = bits == 1 || bits == 2 || bits == 4;
                boolean isKind = kind < 7 && channels[kind] > 0;
                int[] head = ChunksTest.head(1, 1, bits, kind);
                if (isKind && (bits == 8 || isFew && (kind == 0 || kind == 3))) {
                    right("kind " + kind + " bits " + bits, kind == 3 ? 4 : 3, head, kind == 3 ? ENTRY : NONE,
                            chunk("IDAT", new int[1 + (channels[kind] * bits + 7) / 8]), END);
                } else {
                    wrong("kind " + kind + " bits " + bits, 7, 0, head, DATA, END);
                }
            }
        }
    }

    private static void gammas() {
        for (long v : new long[] {1, 2147483647L}) {
            right("gamma " + v, 4, HEAD, chunk("gAMA", four(v)), DATA, END);
        }
        for (long v : new long[] {0, 2147483648L, 4294967295L}) {
            wrong("gamma " + v, 7, 1, HEAD, chunk("gAMA", four(v)), DATA, END);
        }
        for (int n : new int[] {0, 3, 5}) {
            wrong("gamma of " + n, 7, 1, HEAD, chunk("gAMA", Checks.first(new int[] {0, 0, 1, 1, 1}, n)), DATA, END);
        }
    }

    private static void colours() {
        for (int v = 0; v <= 4; v++) {
            if (v <= 3) {
                right("colour " + v, 4, HEAD, chunk("sRGB", v), DATA, END);
            } else {
                wrong("colour " + v, 7, 1, HEAD, chunk("sRGB", v), DATA, END);
            }
        }
        wrong("colour of none", 7, 1, HEAD, chunk("sRGB"), DATA, END);
        wrong("colour of two", 7, 1, HEAD, chunk("sRGB", 0, 0), DATA, END);
        wrong("colour 255", 7, 1, HEAD, chunk("sRGB", 255), DATA, END);
    }

    private static int[] scale(long x, long y, int unit) {
        return chunk("pHYs", Checks.joined(four(x), four(y), new int[] {unit}));
    }

    private static void scales() {
        right("scale 1", 4, HEAD, scale(1, 1, 1), DATA, END);
        right("the greatest scale", 4, HEAD, scale(2147483647L, 2147483647L, 1), DATA, END);
        wrong("scale 0", 7, 1, HEAD, scale(0, 0, 1), DATA, END);
        wrong("scale above", 7, 1, HEAD, scale(2147483648L, 2147483648L, 1), DATA, END);
        wrong("not alike", 7, 1, HEAD, scale(5, 6, 1), DATA, END);
        wrong("not alike", 7, 1, HEAD, scale(5, 5 + 16777216, 1), DATA, END);
        for (int unit : new int[] {0, 2, 255}) {
            wrong("unit " + unit, 7, 1, HEAD, scale(5, 5, unit), DATA, END);
        }
        int[] data = {0, 0, 0, 1, 0, 0, 0, 1, 1, 0};
        wrong("8 bytes", 7, 1, HEAD, chunk("pHYs", Checks.first(data, 8)), DATA, END);
        wrong("10 bytes", 7, 1, HEAD, chunk("pHYs", data), DATA, END);
        wrong("none", 7, 1, HEAD, chunk("pHYs"), DATA, END);
    }

    /** "a number of bytes by 3, 1 to 2 to the BITS entries (64 at most)". */
    private static void palettes() {
        int[] most = {0, 2, 4, 0, 16, 0, 0, 0, 64};
        for (int bits : new int[] {1, 2, 4, 8}) {
            int[] head = ChunksTest.head(1, 1, bits, 3);
            int n = 3 * most[bits];
            right("one entry", 4, head, ENTRY, ENTRY_DATA, END);
            right("as many as may be", 4, head, chunk("PLTE", new int[n]), ENTRY_DATA, END);
            for (int other : new int[] {0, 1, 2, 4, n - 1, n + 1, n + 3}) {
                wrong(other + " bytes", 7, 1, head, chunk("PLTE", new int[other]), ENTRY_DATA, END);
            }
        }
        for (int kind : new int[] {2, 6}) {
            int[] head = ChunksTest.head(1, 1, 8, kind);
            int[] data = chunk("IDAT", new int[kind == 2 ? 4 : 5]);
            right("passed over when it is right", 4, head, chunk("PLTE", new int[192]), data, END);
            wrong("65 entries", 7, 1, head, chunk("PLTE", new int[195]), data, END);
            wrong("none", 7, 1, head, chunk("PLTE"), data, END);
            wrong("not by 3", 7, 1, head, chunk("PLTE", 1, 2), data, END);
        }
    }

    /** "tRNS (KIND 3 alone) not empty, with not more than PLTE". */
    private static void alphas() {
        int[] two = chunk("PLTE", 1, 1, 1, 2, 2, 2);
        right("one of two", 5, INDEXED, two, chunk("tRNS", 0), ENTRY_DATA, END);
        Checks.holds("its alpha is 0", !house.isInside(5, 0, 0));
        right("two of two", 5, INDEXED, two, chunk("tRNS", 1, 0), ENTRY_DATA, END);
        Checks.holds("its alpha is not 0", house.isInside(5, 0, 0));
        right("an entry without an alpha", 5, INDEXED, two, chunk("tRNS", 0), chunk("IDAT", 0, 1), END);
        Checks.holds("an entry without an alpha", house.isInside(5, 0, 0));
        right("no alphas, behind a file that had some", 4, INDEXED, two, ENTRY_DATA, END);
        Checks.holds("no alphas", house.isInside(5, 0, 0));
        wrong("none", 7, 2, INDEXED, two, chunk("tRNS"), ENTRY_DATA, END);
        wrong("three of two", 7, 2, INDEXED, two, chunk("tRNS", 1, 1, 1), ENTRY_DATA, END);
        int[] great = chunk("PLTE", new int[192]);
        right("64 of 64", 5, INDEXED, great, chunk("tRNS", new int[64]), ENTRY_DATA, END);
        wrong("65 of 64", 7, 2, INDEXED, great, chunk("tRNS", new int[65]), ENTRY_DATA, END);
        wrong("of kind 2", 7, 2, COLOURS, two, chunk("tRNS", 1), COLOUR_DATA, END);
        wrong("of kind 6", 7, 2, ChunksTest.head(1, 1, 8, 6), two, chunk("tRNS", 1), chunk("IDAT", new int[5]), END);
    }

    /** "any other chunk whose first letter is small (an EXTRA) of more than 40 bytes, or the seventh". */
    private static void extras() {
        right("40 bytes", 4, HEAD, chunk("exTr", new int[40]), DATA, END);
        wrong("41 bytes", 7, 1, HEAD, chunk("exTr", new int[41]), DATA, END);
        wrong("255 bytes", 7, 1, HEAD, chunk("exTr", new int[255]), DATA, END);
        int[] extra = chunk("exTr");
        int[] other = chunk("teXt", 1);
        right("six", 9, HEAD, extra, other, extra, other, DATA, extra, other, END);
        wrong("a seventh", 7, 8, HEAD, extra, other, extra, other, DATA, extra, other, extra, END);
        int[] gamma = chunk("gAMA", 0, 0, 0, 1);
        right("gamma is none of them", 10, HEAD, gamma, extra, other, extra, other, extra, other, DATA, END);
    }

    private static void ends() {
        wrong("an end with a byte", 7, 2, HEAD, DATA, chunk("IEND", 0), END);
        wrong("before its data is looked at", 7, 2, HEAD, chunk("IDAT", 1, 7), chunk("IEND", 0), END);
        right("what is behind is not looked at", 3, HEAD, DATA, END, new int[] {1, 2, 3});
        right("what is behind is not looked at", 3, HEAD, DATA, END, HEAD);
    }

    // ---- 8 DATA

    /** "IDATs have together not as many bytes as the rows; a row begins with another byte than 0". */
    private static void rows() {
        for (int kind : new int[] {0, 2, 3, 4, 6}) {
            int channels = new int[] {1, 0, 3, 1, 2, 0, 4}[kind];
            int[] head = ChunksTest.head(3, 2, 8, kind);
            int[] palette = kind == 3 ? ENTRY : NONE;
            int bytes = 2 * (1 + 3 * channels);
            int end = kind == 3 ? 3 : 2;
            right("just as many, kind " + kind, end + 1, kind == 3
                    ? new int[][] {head, palette, chunk("IDAT", new int[bytes]), END}
                    : new int[][] {head, chunk("IDAT", new int[bytes]), END});
            for (int other : new int[] {0, bytes - 1, bytes + 1, bytes / 2, 2 * bytes}) {
                broken("not as many, kind " + kind, 8, 8 + head.length + palette.length + 12 + other, head, palette,
                        chunk("IDAT", new int[other]), END);
            }
            for (int row = 0; row < 2; row++) {
                for (int filter : new int[] {1, 4, 255}) {
                    int[] data = Checks.altered(new int[bytes], row * bytes / 2, filter);
                    broken("a first byte, kind " + kind, 8, 8 + head.length + palette.length + 12 + bytes, head, palette,
                            chunk("IDAT", data), END);
                }
            }
        }
        wrong("not as many, of two chunks", 8, 3, HEAD, chunk("IDAT", 0), chunk("IDAT", 7, 7), END);
        right("as many, of three chunks", 5, HEAD, chunk("IDAT", 0), chunk("IDAT"), chunk("IDAT", 7), END);
    }

    /** "a last byte is not filled with 0". */
    private static void filled() {
        for (int bits : new int[] {1, 2, 4}) {
            int samples = 8 / bits + 1;
            for (int row = 0; row < 2; row++) {
                for (int bit = 0; bit < 8; bit++) {
                    int[] data = {0, 0, 0, 0, 0, 0};
                    data[3 * row + 2] = 1 << bit;
                    int[] head = ChunksTest.head(samples, 2, bits, 0);
                    if (bit < 8 - bits) {
                        wrong("bits " + bits + " fill bit " + bit, 8, 2, head, chunk("IDAT", data), END);
                    } else {
                        right("a sample's bit", 3, head, chunk("IDAT", data), END);
                    }
                }
            }
        }
        right("none fill", 3, ChunksTest.head(8, 1, 1, 0), chunk("IDAT", 0, 255), END);
        wrong("of kind 3", 8, 3, ChunksTest.head(1, 1, 1, 3), ENTRY, chunk("IDAT", 0, 1), END);
    }

    private static void beyondThePalette() {
        for (int bits : new int[] {1, 2, 4, 8}) {
            for (int entries = 1; entries <= Math.min(64, 1 << bits); entries = entries * 2 + (entries > 2 ? 1 : 0)) {
                int[] palette = chunk("PLTE", new int[3 * entries]);
                int[] head = ChunksTest.head(1, 1, bits, 3);
                int shift = 8 - bits;
                right("the last entry", 4, head, palette, chunk("IDAT", 0, entries - 1 << shift), END);
                if (entries < 1 << bits) {
                    wrong("behind the last entry", 8, 3, head, palette, chunk("IDAT", 0, entries << shift), END);
                    wrong("the greatest sample", 8, 3, head, palette, chunk("IDAT", 0, (1 << bits) - 1 << shift), END);
                }
            }
        }
    }

    /** "255 times it by the greatest one of its BITS"; "a third of red, green and blue together"; alphas. */
    private static void samples() {
        for (int bits : new int[] {1, 2, 4}) {
            int top = (1 << bits) - 1;
            for (int v = 0; v <= top; v++) {
                right("grey " + v, 3, ChunksTest.head(1, 1, bits, 0), chunk("IDAT", 0, v << 8 - bits), END);
                Checks.same("grey " + v + " of " + bits, 255 * v / top, house.at(5, 0, 0));
            }
        }
        int[][] colours = {{0, 0, 0}, {0, 0, 2}, {0, 1, 2}, {1, 1, 2}, {255, 255, 254}, {255, 255, 255}, {255, 0, 0}};
        for (int[] c : colours) {
            int due = (c[0] + c[1] + c[2]) / 3;
            right("colours", 3, COLOURS, chunk("IDAT", 0, c[0], c[1], c[2]), END);
            Checks.same("a third", due, house.at(5, 0, 0));
            right("an entry", 4, INDEXED, chunk("PLTE", c), ENTRY_DATA, END);
            Checks.same("a third", due, house.at(5, 0, 0));
            for (int alpha : new int[] {0, 1, 255}) {
                right("with alpha", 3, ChunksTest.head(1, 1, 8, 6), chunk("IDAT", 0, c[0], c[1], c[2], alpha), END);
                Checks.same("a third", due, house.at(5, 0, 0));
                Checks.holds("alpha " + alpha, house.isInside(5, 0, 0) == alpha > 0);
                right("grey with alpha", 3, ChunksTest.head(1, 1, 8, 4), chunk("IDAT", 0, c[0], alpha), END);
                Checks.same("grey", c[0], house.at(5, 0, 0));
                Checks.holds("alpha " + alpha, house.isInside(5, 0, 0) == alpha > 0);
                right("an entry's alpha", 5, INDEXED, chunk("PLTE", c), chunk("tRNS", alpha), ENTRY_DATA, END);
                Checks.holds("alpha " + alpha, house.isInside(5, 0, 0) == alpha > 0);
            }
        }
    }

    /** "how many there are, with IEND, without LEFT OUT ones". */
    private static void counted() {
        int[] out = spoiled(chunk("exTr"));
        right("three at least", 3, HEAD, DATA, END);
        right("without those left out", 3, out, HEAD, out, DATA, out, END);
        right("each piece of data is one", 4, HEAD, chunk("IDAT", 0), chunk("IDAT", 7), END);
    }
}
