import java.util.HashMap;
import java.util.Map;
import java.util.Random;

/** Promises 10 and 11: halftone, shade, greys and ungrey. */
public final class HalftonesTest {
    public static void main(String[] args) {
        wrongCalls();
        byHand();
        sameAsReference();
        faults();
        anyBytes();
        Checks.end();
    }

    private static void wrongCalls() {
        PictureCodingHouse house = new PictureCodingHouse();
        house.picture(0, 4, 4);
        house.sheet(0, 24, 14);
        house.sheet(1, 13, 1);
        Checks.index("halftone", () -> house.halftone(8, 0, 0));
        Checks.index("halftone", () -> house.halftone(1, 0, 4));
        Checks.state("halftone", () -> house.halftone(1, 0, 0));
        Checks.argument("halftone", () -> house.halftone(0, 0, 0));
        Checks.argument("halftone", () -> house.halftone(0, 3, 0));
        Checks.index("shade", () -> house.shade(4, 0, 0));
        Checks.index("shade", () -> house.shade(2, 0, 8));
        Checks.state("shade", () -> house.shade(2, 0, 0));
        Checks.argument("shade", () -> house.shade(0, 0, 0));
        Checks.argument("shade", () -> house.shade(0, 4, 0));
        Checks.state("shade, not divided", () -> house.shade(0, 3, 0));
        Checks.state("shade, too wide", () -> house.shade(0, 1, 0));
        Checks.state("shade, too wide", () -> house.shade(1, 1, 0));
        Checks.same("shade", 255 * 84, house.shade(0, 2, 0));
        Checks.index("greys", () -> house.greys(8, 0, 0));
        Checks.index("greys", () -> house.greys(1, 0, 12));
        Checks.state("greys", () -> house.greys(1, 0, 0));
        Checks.argument("greys", () -> house.greys(0, 0, 0));
        Checks.argument("greys", () -> house.greys(0, 3, 0));
        Checks.index("ungrey", () -> house.ungrey(12, 0));
        Checks.index("ungrey", () -> house.ungrey(0, 8));
        Checks.same("no work", 0, house.told(0));
    }

    private static void byHand() {
        PictureCodingHouse house = new PictureCodingHouse();
        house.picture(0, 5, 1);
        // ((255 - v) 4 + 127) / 255: 0, 1, 2, 3, 4
        int[] v = {255, 191, 128, 64, 0};
        for (int x = 0; x < 5; x++) {
            house.put(0, x, 0, 1, v[x]);
        }
        Checks.same("halftone", 10, house.halftone(0, 2, 1));
        Checks.sameSheet("halftone", house, 1, "..#.#.####", ".....#.###");
        Checks.same("halftone by 1", 2, house.halftone(0, 1, 1));
        Checks.sameSheet("halftone by 1", house, 1, "...##");
        house.shape(0, 4, 0, 1, false);
        Checks.same("outside", 6, house.halftone(0, 2, 1));
        Checks.same("shade", 255 + 192 + 128 + 64 + 255, house.shade(1, 2, 2));
        Checks.samePicture("shade", house, 2, new int[][] {{255, 192, 128, 64, 255}});
        Checks.drawSheet(house, 0, "##.", "#..", "...");
        Checks.same("shade by 3", 170, house.shade(0, 3, 2));
        Checks.samePicture("shade by 3", house, 2, new int[][] {{170}});
        Checks.same("shade by 1", 6 * 255, house.shade(0, 1, 2));
        Checks.same("wholly inside", 9, house.size(0, 2, 2));
        Checks.same("no work", 0, house.told(0));
        // one sample of grey 1: the bit 1 is not foretold, so a run of 0, and one of 0 at the end
        house.picture(3, 1, 1);
        Checks.same("greys", 5, house.greys(3, 1, 0));
        // k 2 by 1 and 4, then 1 by 2 and 4: 000, 00
        Checks.same("greys", new int[] {72, 1, 1, 1, 0}, Checks.file(house, 0));
        house.put(3, 0, 0, 1, 255);
        house.greys(3, 1, 0);
        // one run of 1: 001
        Checks.same("greys", new int[] {72, 1, 1, 1, 0x20}, Checks.file(house, 0));
    }

    // ---- a plain reading of the document

    private static int a;
    private static int m;

    private static String run(int r) {
        int k = 0;
        while (k < 8 && m << k < a) {
            k++;
        }
        String text = r >> k < 12 ? "1".repeat(r >> k) + "0" + Checks.bits(r, k) : "1".repeat(12) + Checks.bits(r, 13);
        a += r;
        m++;
        if (m == 32) {
            a /= 2;
            m /= 2;
        }
        return text;
    }

    static String encoded(int[][] grey, int q) {
        int w = grey[0].length;
        int h = grey.length;
        a = 4;
        m = 1;
        StringBuilder text = new StringBuilder();
        int run = 0;
        int[][] above = new int[h + 1][w + 4];
        for (int plane = q == 1 ? 0 : 2; plane >= 0; plane--) {
            // a border of two at the left, one at the right, one above
            int[][] told = new int[h + 1][w + 4];
            Map<String, Integer> states = new HashMap<>();
            for (int j = 0; j < h; j++) {
                for (int i = 0; i < w; i++) {
                    int bit = (grey[j][i] >> plane & 1) ^ (grey[j][i] >> plane + 1 & 1);
                    String context = told[j + 1][i + 1] + "," + told[j + 1][i] + "," + told[j][i + 1] + ","
                            + told[j][i + 2] + "," + told[j][i + 3] + "," + above[j + 1][i + 2];
                    int state = states.getOrDefault(context, -1);
                    if (bit == (state >= 0 ? 1 : 0)) {
                        run++;
                    } else {
                        text.append(run(run));
                        run = 0;
                    }
                    if (bit == 1) {
                        state = Math.min(7, state + (state < 0 ? 2 : 1));
                    } else {
                        state = Math.max(-8, state - (state < 0 ? 1 : 2));
                    }
                    states.put(context, state);
                    told[j + 1][i + 2] = bit;
                }
            }
            above = told;
        }
        return text.append(run(run)).toString();
    }

    /** A few rows of one value, then others: states go far up and down. */
    private static void areas(Random random, int[][] v) {
        int value = random.nextInt(256);
        for (int[] row : v) {
            value = random.nextInt(4) == 0 ? random.nextInt(256) : value;
            for (int x = 0; x < row.length; x++) {
                value = random.nextInt(20) == 0 ? random.nextInt(256) : value;
                row[x] = value;
            }
        }
    }

    private static void sameAsReference() {
        Random random = new Random(21);
        for (int run = 0; run < 600; run++) {
            int w = 1 + random.nextInt(12);
            int h = 1 + random.nextInt(12);
            int q = 1 + random.nextInt(2);
            int[][] v = Checks.greys(random, w, h, 255);
            if (run % 3 == 0) {
                areas(random, v);
            }
            boolean[][] inside = Checks.maskOf(random, w, h);
            PictureCodingHouse house = new PictureCodingHouse();
            Checks.draw(house, 0, v);
            Checks.mask(house, 0, inside);
            int[][] grey = new int[h][w];
            int[][] read = new int[h][w];
            int dark = 0;
            for (int y = 0; y < h; y++) {
                for (int x = 0; x < w; x++) {
                    grey[y][x] = inside[y][x] ? ((255 - v[y][x]) * q * q + 127) / 255 : 0;
                    read[y][x] = 255 - 255 * grey[y][x] / (q * q);
                    dark += grey[y][x];
                }
            }
            int[] due = Checks.joined(new int[] {72, q, w, h}, Checks.packed(encoded(grey, q)));
            Checks.same("greys", due.length, house.greys(0, q, 5));
            Checks.same("greys " + run, due, Checks.file(house, 5));
            Checks.same("ungrey", w * h, house.ungrey(5, 1));
            Checks.noFault("ungrey", house);
            Checks.samePicture("ungrey", house, 1, read);
            Checks.same("ungrey inside", w * h, house.size(0, 1, 2));
            Checks.same("halftone", dark, house.halftone(0, q, 2));
            Checks.same("halftone width", w * q, house.size(1, 2, 0));
            int sum = 0;
            for (int[] row : read) {
                for (int one : row) {
                    sum += one;
                }
            }
            Checks.same("shade", sum, house.shade(2, q, 3));
            Checks.samePicture("shade", house, 3, read);
        }
    }

    private static void broken(String what, int number, int place, int... file) {
        PictureCodingHouse house = new PictureCodingHouse();
        Checks.load(house, 0, file);
        Checks.sameFault(what, house, house.ungrey(0, 0), number, place);
        Checks.same(what + " changes nothing", -1, house.size(0, 0, 0));
    }

    private static void faults() {
        broken("empty", 1, 0);
        broken("3 bytes", 1, 0, 72, 1, 1);
        broken("front", 1, 0, 71, 1, 1, 1, 0);
        broken("side", 1, 0, 72, 0, 1, 1, 0);
        broken("side", 1, 0, 72, 3, 1, 1, 0);
        broken("width", 1, 0, 72, 1, 0, 1, 0);
        broken("width", 1, 0, 72, 1, 13, 1, 0);
        broken("height", 1, 0, 72, 1, 1, 0, 0);
        broken("height", 1, 0, 72, 1, 1, 13, 0);
        broken("no bits", 11, 4, 72, 1, 1, 1);
        broken("bits end in a run", 11, 4, 72, 1, 1, 1, 255);
        broken("a run of 2 for one bit", 12, 4, 72, 1, 1, 1, 0x40);
        // a run of 0, then one of 1 at the end: 000 01
        broken("a run behind the last bit", 12, 4, 72, 1, 1, 1, 0x08);
        broken("a bit 1 behind the end", 13, 4, 72, 1, 1, 1, 0x21);
        broken("a byte behind the end", 13, 4, 72, 1, 1, 1, 0x20, 0);
        broken("a bit 1 and a byte", 13, 4, 72, 1, 1, 1, 0x21, 0);
        // q 2: the bits 1, 0, 0 are grey 7: runs 0, then 2 by k 1: 000 100
        broken("a grey above 4", 14, 4, 72, 2, 1, 1, 0b00010000);
        broken("a bit 1 comes before a grey above 4", 13, 4, 72, 2, 1, 1, 0b00010001);
        PictureCodingHouse house = new PictureCodingHouse();
        // the bits 1, 1, 0 are grey 4: runs 0, 0, 1: 000 00 0 and k 1 by 3 and 4: 01
        Checks.load(house, 0, new int[] {72, 2, 1, 1, 0b00000010});
        Checks.same("ungrey", 1, house.ungrey(0, 0));
        Checks.same("grey 4", 0, house.at(0, 0, 0));
    }

    private static void anyBytes() {
        Random random = new Random(22);
        for (int run = 0; run < 500; run++) {
            PictureCodingHouse house = new PictureCodingHouse();
            Checks.draw(house, 0, Checks.greys(random, 1 + random.nextInt(12), 1 + random.nextInt(12), 255));
            int n = house.greys(0, 1 + random.nextInt(2), 0);
            house.alter(0, 4 + random.nextInt(n - 4), random.nextInt(256));
            int answer = house.ungrey(0, 1);
            if (house.fault(0) == 0) {
                Checks.same("ungrey", house.size(0, 0, 2), answer);
            } else {
                Checks.same("fault", -5, answer);
                Checks.same("place", 4, house.fault(1));
                Checks.holds("number", house.fault(0) >= 11 && house.fault(0) <= 14);
                Checks.same("nothing changed", -1, house.size(0, 1, 0));
            }
        }
    }
}
