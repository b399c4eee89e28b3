import java.util.ArrayList;
import java.util.List;
import java.util.Random;
import java.util.zip.CRC32;

/** Promises 8 and 9: chunks and unchunk. */
public final class ChunksTest {
    private static final int[] FRONT = {137, 80, 78, 71, 13, 10, 26, 10};
    private static final int[] NONE = {};

    public static void main(String[] args) {
        wrongCalls();
        written();
        readMore();
        palettes();
        faultsOfFrames();
        faultsOfOrder();
        faultsOfValues();
        faultsOfData();
        anyBytes();
        Checks.end();
    }

    static int[] chunk(String letters, int... data) {
        List<Integer> bytes = new ArrayList<>();
        Checks.addNumber(bytes, data.length, 4);
        CRC32 sum = new CRC32();
        for (char letter : letters.toCharArray()) {
            bytes.add((int) letter);
            sum.update(letter);
        }
        for (int b : data) {
            bytes.add(b);
            sum.update(b);
        }
        Checks.addNumber(bytes, sum.getValue(), 4);
        return Checks.bytes(bytes);
    }

    static int[] head(int w, int h, int bits, int kind) {
        return chunk("IHDR", 0, 0, 0, w, 0, 0, 0, h, bits, kind, 0, 0, 0);
    }

    private static int[] rows(int[][] rows) {
        return Checks.joined(rows);
    }

    static int[] whole(int[]... chunks) {
        return Checks.joined(FRONT, Checks.joined(chunks));
    }

    private static void wrongCalls() {
        PictureCodingHouse house = new PictureCodingHouse();
        Checks.index("chunks", () -> house.chunks(8, 0));
        Checks.index("chunks", () -> house.chunks(0, 12));
        Checks.state("chunks", () -> house.chunks(0, 0));
        Checks.index("unchunk", () -> house.unchunk(12, 0));
        Checks.index("unchunk", () -> house.unchunk(0, 8));
        Checks.same("no work", 0, house.told(0));
    }

    private static void written() {
        Random random = new Random(4);
        for (int run = 0; run < 200; run++) {
            int w = 1 + random.nextInt(12);
            int h = 1 + random.nextInt(12);
            int[] units = {255, 85, 17, 1};
            int which = random.nextInt(4);
            int[][] grey = new int[h][w];
            for (int[] row : grey) {
                for (int x = 0; x < w; x++) {
                    row[x] = units[which] * random.nextInt(255 / units[which] + 1);
                }
            }
            boolean isWhole = random.nextInt(3) > 0;
            PictureCodingHouse house = new PictureCodingHouse();
            Checks.draw(house, 0, grey);
            if (!isWhole) {
                house.shape(0, random.nextInt(w), random.nextInt(h), 3, false);
            }
            int bits = isWhole ? 1 : 8;
            for (int[] row : grey) {
                for (int v : row) {
                    while (v % (255 / ((1 << bits) - 1)) != 0) {
                        bits *= 2;
                    }
                }
            }
            int[][] data = new int[h][];
            for (int y = 0; y < h; y++) {
                StringBuilder row = new StringBuilder("00000000");
                for (int x = 0; x < w; x++) {
                    row.append(Checks.bits(grey[y][x] * ((1 << bits) - 1) / 255, bits));
                    if (!isWhole) {
                        row.append(Checks.bits(house.isInside(0, x, y) ? 255 : 0, 8));
                    }
                }
                data[y] = Checks.packed(row.toString());
            }
            int[] all = rows(data);
            int[] due = whole(head(w, h, bits, isWhole ? 0 : 4));
            int chunks = 2;
            for (int i = 0; i < all.length; i += 60) {
                due = Checks.joined(due, chunk("IDAT",
                        java.util.Arrays.copyOfRange(all, i, Math.min(all.length, i + 60))));
                chunks++;
            }
            due = Checks.joined(due, chunk("IEND"));
            Checks.same("chunks", due.length, house.chunks(0, 9));
            Checks.same("chunks", due, Checks.file(house, 9));
            Checks.same("unchunk", chunks, house.unchunk(9, 1));
            Checks.noFault("unchunk", house);
            Checks.samePicture("read", house, 1, grey);
            for (int y = 0; y < h; y++) {
                for (int x = 0; x < w; x++) {
                    Checks.holds("inside", house.isInside(0, x, y) == house.isInside(1, x, y));
                }
            }
        }
    }

    private static void sameRead(String what, int chunks, int[][] grey, boolean[][] inside, int[] file) {
        PictureCodingHouse house = new PictureCodingHouse();
        Checks.load(house, 0, file);
        Checks.same(what, chunks, house.unchunk(0, 0));
        Checks.noFault(what, house);
        Checks.samePicture(what, house, 0, grey);
        Checks.sameMask(what, house, 0, inside);
    }

    private static void readMore() {
        boolean[][] all = {{true, true}};
        sameRead("grey, 2 bits", 3, new int[][] {{85, 170}}, all,
                whole(head(2, 1, 2, 0), chunk("IDAT", 0, 0b01100000), chunk("IEND")));
        sameRead("grey, 4 bits", 3, new int[][] {{17, 255}}, all,
                whole(head(2, 1, 4, 0), chunk("IDAT", 0, 0x1F), chunk("IEND")));
        sameRead("colours", 4, new int[][] {{(1 + 2 + 5) / 3, 255}}, all,
                whole(head(2, 1, 8, 2), chunk("PLTE", 1, 2, 3), chunk("IDAT", 0, 1, 2, 5, 255, 255, 255),
                        chunk("IEND")));
        sameRead("grey with alpha", 3, new int[][] {{9, 200}}, new boolean[][] {{false, true}},
                whole(head(2, 1, 8, 4), chunk("IDAT", 0, 9, 0, 200, 1), chunk("IEND")));
        sameRead("colours with alpha", 3, new int[][] {{3, 100}}, new boolean[][] {{true, false}},
                whole(head(2, 1, 8, 6), chunk("IDAT", 0, 3, 3, 4, 7, 100, 100, 100, 0), chunk("IEND")));
        sameRead("palette", 5, new int[][] {{2, 50}}, new boolean[][] {{false, true}},
                whole(head(2, 1, 1, 3), chunk("PLTE", 1, 2, 3, 50, 50, 50), chunk("tRNS", 0),
                        chunk("IDAT", 0, 0x40), chunk("IEND")));
        sameRead("palette without alphas", 4, new int[][] {{2, 50}}, all,
                whole(head(2, 1, 1, 3), chunk("PLTE", 1, 2, 3, 50, 50, 50), chunk("IDAT", 0, 0x40), chunk("IEND")));
        int[] wrongSum = chunk("abCd", 1, 2);
        wrongSum[wrongSum.length - 1] ^= 1;
        sameRead("all that may be", 13, new int[][] {{1, 2}}, all,
                whole(wrongSum, head(2, 1, 8, 0), wrongSum, chunk("gAMA", 0, 0, 0, 1), chunk("sRGB", 3),
                        chunk("pHYs", 127, 255, 255, 255, 127, 255, 255, 255, 1), chunk("exTr", new int[40]),
                        chunk("aaAa"), chunk("IDAT"), chunk("IDAT", 0, 1), chunk("IDAT", 2), chunk("bbBb"),
                        chunk("ccCc"), wrongSum, chunk("ddDd"), chunk("IEND"), new int[] {1, 2, 3}));
    }

    private static void palettes() {
        Random random = new Random(6);
        for (int run = 0; run < 60; run++) {
            int bits = 1 << random.nextInt(4);
            int entries = 1 + random.nextInt(Math.min(64, 1 << bits));
            int[] colours = new int[3 * entries];
            for (int i = 0; i < colours.length; i++) {
                colours[i] = random.nextInt(256);
            }
            int[] alphas = new int[random.nextInt(entries + 1)];
            for (int i = 0; i < alphas.length; i++) {
                alphas[i] = random.nextInt(3) * 100;
            }
            int w = 1 + random.nextInt(12);
            int h = 1 + random.nextInt(6);
            int[][] grey = new int[h][w];
            boolean[][] inside = new boolean[h][w];
            int[][] data = new int[h][];
            for (int y = 0; y < h; y++) {
                StringBuilder row = new StringBuilder("00000000");
                for (int x = 0; x < w; x++) {
                    int entry = random.nextInt(entries);
                    grey[y][x] = (colours[3 * entry] + colours[3 * entry + 1] + colours[3 * entry + 2]) / 3;
                    inside[y][x] = entry >= alphas.length || alphas[entry] != 0;
                    row.append(Checks.bits(entry, bits));
                }
                data[y] = Checks.packed(row.toString());
            }
            int[] some = alphas.length == 0 ? NONE : chunk("tRNS", alphas);
            sameRead("palette " + run, alphas.length == 0 ? 4 : 5, grey, inside,
                    whole(head(w, h, bits, 3), chunk("PLTE", colours), some, chunk("IDAT", rows(data)), chunk("IEND")));
        }
    }

    private static void broken(String what, int number, int place, int[]... chunks) {
        PictureCodingHouse house = new PictureCodingHouse();
        house.picture(0, 1, 1);
        Checks.load(house, 0, whole(chunks));
        Checks.sameFault(what, house, house.unchunk(0, 0), number, place);
        Checks.same(what + " changes nothing", 1, house.size(0, 0, 0));
    }

    /** The last chunk is the wrong one. */
    private static void last(String what, int number, int[]... chunks) {
        int place = 8;
        for (int i = 0; i + 1 < chunks.length; i++) {
            place += chunks[i].length;
        }
        broken(what, number, place, chunks);
    }

    private static void faultsOfFrames() {
        PictureCodingHouse house = new PictureCodingHouse();
        Checks.sameFault("empty", house, house.unchunk(0, 0), 1, 0);
        for (int i = 0; i < 8; i++) {
            Checks.load(house, 0, Checks.altered(whole(head(1, 1, 8, 0)), i, 1));
            Checks.sameFault("front", house, house.unchunk(0, 0), 1, 0);
        }
        int[] head = head(1, 1, 8, 0);
        broken("no chunk", 1, 8, NONE);
        broken("eleven bytes", 1, 8, Checks.first(head, 11));
        broken("cut", 1, 8, Checks.first(head, head.length - 1));
        broken("no end", 1, 8 + head.length, head);
        last("256 bytes", 2, head, new int[] {0, 0, 1, 0, 1, 1, 1, 1, 0, 0, 0, 0});
        last("many bytes", 2, head, new int[] {255, 0, 0, 0, 1, 1, 1, 1, 0, 0, 0, 0});
        last("cut before letters", 1, head, new int[] {0, 0, 0, 1, 1, 1, 1, 1, 0, 0, 0, 0});
        last("letters", 3, head, chunk("ab1d"));
        last("letters", 3, head, chunk("ab@d"));
        last("letters", 3, head, chunk("[bCd"));
        last("third is small", 3, head, chunk("abcd"));
        int[] data = chunk("IDAT", 0, 7);
        data[9] = 8;
        last("sum", 4, head, data);
        last("sum before order", 4, data);
        int[] wrong = chunk("zzZz");
        wrong[11] ^= 128;
        last("left out, but cut", 1, head, wrong, Checks.first(wrong, 3));
    }

    private static void faultsOfOrder() {
        int[] head = head(1, 1, 8, 0);
        int[] data = chunk("IDAT", 0, 7);
        int[] palette = chunk("PLTE", 1, 2, 3);
        int[] gamma = chunk("gAMA", 0, 0, 0, 1);
        int[] colour = chunk("sRGB", 0);
        int[] scale = chunk("pHYs", 0, 0, 0, 1, 0, 0, 0, 1, 1);
        int[] colours = head(1, 1, 8, 2);
        int[] indexed = head(1, 1, 8, 3);
        int[] extra = chunk("exTr");
        int[] out = chunk("abCd");
        out[8] ^= 1;
        last("not a head", 5, data);
        last("not a head", 5, extra);
        last("not a head, though unknown", 5, chunk("ABCD"));
        last("a second head", 5, head, head);
        last("a second head, wrong", 5, head, chunk("IHDR"));
        last("gamma behind data", 5, head, data, gamma);
        last("colour behind data", 5, head, data, colour);
        last("scale behind data", 5, head, data, scale);
        last("palette behind data", 5, colours, data, palette);
        last("alphas behind data", 5, indexed, palette, data, chunk("tRNS", 1));
        last("gamma twice", 5, head, gamma, gamma);
        last("colour twice", 5, head, colour, colour);
        last("scale twice", 5, head, scale, scale);
        last("palette twice", 5, colours, palette, palette);
        last("alphas twice", 5, indexed, palette, chunk("tRNS", 1), chunk("tRNS", 1));
        last("gamma behind palette", 5, colours, palette, gamma);
        last("colour behind palette", 5, colours, palette, colour);
        last("alphas before palette", 5, indexed, chunk("tRNS", 1));
        last("alphas without palette", 5, head, chunk("tRNS", 1));
        last("palette for grey", 5, head, palette);
        last("palette for grey with alpha", 5, head(1, 1, 8, 4), palette);
        last("data parted", 5, head, chunk("IDAT", 0), extra, chunk("IDAT", 7));
        last("data parted by one left out", 5, head, chunk("IDAT", 0), out, chunk("IDAT", 7));
        last("data before palette", 5, indexed, data);
        last("end before data", 5, head, chunk("IEND"));
        last("unknown", 6, head, chunk("ABCD"));
        last("unknown, long", 6, head, data, chunk("IdAT", new int[99]));
        sameRead("scale behind palette", 5, new int[][] {{2}}, new boolean[][] {{true}},
                whole(colours, palette, scale, chunk("IDAT", 0, 1, 2, 3), chunk("IEND")));
    }

    private static void faultsOfValues() {
        int[] head = head(1, 1, 8, 0);
        int[] good = {0, 0, 0, 12, 0, 0, 0, 12, 8, 0, 0, 0, 0};
        int[][] wrong = {{0, 1}, {3, 0}, {3, 13}, {5, 1}, {7, 0}, {7, 13}, {8, 3}, {8, 0}, {8, 16}, {9, 1}, {9, 5},
            {9, 7}, {10, 1}, {11, 1}, {12, 1}};
        for (int[] change : wrong) {
            last("head " + change[0], 7, chunk("IHDR", Checks.altered(good, change[0], change[1])));
        }
        last("head", 7, chunk("IHDR", Checks.first(good, 12)));
        last("head", 7, chunk("IHDR", Checks.joined(good, new int[] {0})));
        for (int kind : new int[] {2, 4, 6}) {
            last("bits", 7, head(1, 1, 4, kind));
        }
        last("gamma", 7, head, chunk("gAMA", 0, 0, 0, 0));
        last("gamma", 7, head, chunk("gAMA", 128, 0, 0, 0));
        last("gamma", 7, head, chunk("gAMA", 0, 0, 1));
        last("colour", 7, head, chunk("sRGB", 4));
        last("colour", 7, head, chunk("sRGB", 0, 0));
        last("scale", 7, head, chunk("pHYs", 0, 0, 0, 1, 0, 0, 0, 2, 1));
        last("scale", 7, head, chunk("pHYs", 0, 0, 0, 0, 0, 0, 0, 0, 1));
        last("scale", 7, head, chunk("pHYs", 0, 0, 0, 1, 0, 0, 0, 1, 0));
        last("scale", 7, head, chunk("pHYs", 0, 0, 0, 1, 0, 0, 0, 1));
        last("palette", 7, head(1, 1, 8, 3), chunk("PLTE"));
        last("palette", 7, head(1, 1, 8, 3), chunk("PLTE", 1, 2));
        last("palette", 7, head(1, 1, 1, 3), chunk("PLTE", new int[9]));
        last("palette", 7, head(1, 1, 8, 2), chunk("PLTE", new int[65 * 3]));
        last("alphas", 7, head(1, 1, 8, 3), chunk("PLTE", 1, 2, 3), chunk("tRNS"));
        last("alphas", 7, head(1, 1, 8, 3), chunk("PLTE", 1, 2, 3), chunk("tRNS", 1, 1));
        last("alphas", 7, head(1, 1, 8, 2), chunk("PLTE", 1, 2, 3), chunk("tRNS", 1));
        last("a long extra", 7, head, chunk("exTr", new int[41]));
        int[] extra = chunk("exTr");
        last("a seventh extra", 7, head, extra, extra, extra, extra, extra, extra, extra);
        last("end", 7, head, chunk("IDAT", 0, 7), chunk("IEND", 0));
        last("end before data is looked at", 7, head, chunk("IDAT", 1), chunk("IEND", 0));
        sameRead("64 entries", 4, new int[][] {{0}}, new boolean[][] {{true}},
                whole(head(1, 1, 8, 3), chunk("PLTE", new int[64 * 3]), chunk("IDAT", 0, 63), chunk("IEND")));
    }

    private static void faultsOfData() {
        int[] end = chunk("IEND");
        last("too few", 8, head(2, 1, 8, 0), chunk("IDAT", 0, 7), end);
        last("too many", 8, head(2, 1, 8, 0), chunk("IDAT", 0, 7, 8, 9), end);
        last("none", 8, head(2, 1, 8, 0), chunk("IDAT"), end);
        last("a filter", 8, head(1, 2, 8, 0), chunk("IDAT", 0, 7, 1, 7), end);
        last("filled with 1", 8, head(2, 1, 2, 0), chunk("IDAT", 0, 8), end);
        last("beyond the palette", 8, head(2, 1, 2, 3), chunk("PLTE", 1, 2, 3), chunk("IDAT", 0, 0x10), end);
    }

    private static void anyBytes() {
        Random random = new Random(5);
        int[] file = whole(head(3, 3, 2, 3), chunk("PLTE", 1, 2, 3, 4, 5, 6), chunk("IDAT", 0, 0, 0, 16, 0, 4),
                chunk("IEND"));
        for (int run = 0; run < 500; run++) {
            int[] other = Checks.altered(file, random.nextInt(file.length), random.nextInt(256));
            PictureCodingHouse house = new PictureCodingHouse();
            Checks.load(house, 0, Checks.first(other, other.length - random.nextInt(2)));
            int answer = house.unchunk(0, 3);
            Checks.same("answer", house.fault(0) == 0 ? 4 : -1 - house.fault(1), answer);
        }
    }
}
