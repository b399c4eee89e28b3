import java.util.Random;

/** Promises 10 and 11 (ungrey), and 6 HALFTONES: greys where they change, runs as long as may be, each FAULT. */
public final class GreyEdgesTest {
    private static PictureCodingHouse house = new PictureCodingHouse();

    public static void main(String[] args) {
        greysBySide();
        patterns();
        outside();
        greatestSizes();
        shades();
        shadesDivided();
        longRuns();
        statesAtTheirEnds();
        oneBehindTheOther();
        cutAnywhere();
        heads();
        runsBeyond();
        behindTheEnd();
        greysAbove();
        inOrder();
        Checks.end();
    }

    private static PictureCodingHouse next() {
        if (house.told(0) > 280) {
            house = new PictureCodingHouse();
        }
        if (house.size(0, 3, 0) < 0) {
            house.picture(3, 2, 3);
            house.put(3, 0, 0, 2, 50);
        }
        return house;
    }

    // ---- halftones and shades

    /** "((255 - v) q q + 127) / 255, rounded down": the last value of each grey, and the first one of the next. */
    private static void greysBySide() {
        int[][] cases = {{1, 127, 1}, {1, 128, 0}, {1, 0, 1}, {1, 255, 0}, {2, 0, 4}, {2, 31, 4}, {2, 32, 3}, {2, 95, 3},
            {2, 96, 2}, {2, 159, 2}, {2, 160, 1}, {2, 223, 1}, {2, 224, 0}, {2, 255, 0}};
        for (int[] one : cases) {
            PictureCodingHouse h = next();
            h.picture(0, 1, 1);
            h.put(0, 0, 0, 1, one[1]);
            Checks.same("dark ones of " + one[1] + " by " + one[0], one[2], h.halftone(0, one[0], 0));
            Checks.same("width", one[0], h.size(1, 0, 0));
            Checks.same("height", one[0], h.size(1, 0, 1));
            h.greys(0, one[0], 0);
            h.ungrey(0, 1);
            Checks.same("grey of " + one[1], 255 - 255 * one[2] / (one[0] * one[0]), h.at(1, 0, 0));
        }
    }

    /** "for q = 2 (0, 0), then (1, 1), then (1, 0), then (0, 1) (column, row)". */
    private static void patterns() {
        String[][] due = {{"..", ".."}, {"#.", ".."}, {"#.", ".#"}, {"##", ".#"}, {"##", "##"}};
        int[] values = {255, 200, 128, 64, 0};
        for (int grey = 0; grey <= 4; grey++) {
            PictureCodingHouse h = next();
            h.picture(0, 1, 1);
            h.put(0, 0, 0, 1, values[grey]);
            h.halftone(0, 2, 0);
            Checks.sameSheet("pattern " + grey, h, 0, due[grey]);
        }
    }

    /** "and that of a sample outside 0". */
    private static void outside() {
        PictureCodingHouse h = next();
        h.picture(0, 2, 2);
        h.shape(0, 1, 0, 1, false);
        for (int q = 1; q <= 2; q++) {
            Checks.same("dark", 3 * q * q, h.halftone(0, q, 0));
            Checks.holds("outside", !h.isDark(0, q, 0));
            h.greys(0, q, 0);
            h.ungrey(0, 1);
            Checks.samePicture("outside", h, 1, new int[][] {{0, 255}, {0, 0}});
        }
    }

    private static void greatestSizes() {
        PictureCodingHouse h = next();
        h.picture(0, 12, 12);
        Checks.same("all dark", 576, h.halftone(0, 2, 3));
        Checks.same("24 wide", 24, h.size(1, 3, 0));
        Checks.same("24 high", 24, h.size(1, 3, 1));
        Checks.same("12 by 2", 0, h.shade(3, 2, 1));
        Checks.same("12 wide", 12, h.size(0, 1, 0));
        h.picture(0, 12, 1);
        Checks.same("in place of the other", 12, h.halftone(0, 1, 3));
        Checks.same("12 wide", 12, h.size(1, 3, 0));
        Checks.same("1 high", 1, h.size(1, 3, 1));
    }

    /** "samples 255 less (255 c by q q, rounded down)": each number of dark samples. */
    private static void shades() {
        for (int q = 1; q <= 3; q++) {
            PictureCodingHouse h = next();
            h.sheet(0, q, q);
            for (int c = 0; c <= q * q; c++) {
                if (c > 0) {
                    h.ink(0, (c - 1) % q, (c - 1) / q, 1, true);
                }
                int due = 255 - 255 * c / (q * q);
                Checks.same("dark " + c + " of " + q, due, h.shade(0, q, 1));
                Checks.same("dark " + c + " of " + q, due, h.at(1, 0, 0));
                Checks.same("wholly inside", 1, h.size(0, 1, 2));
            }
        }
        PictureCodingHouse h = next();
        Checks.drawSheet(h, 0, "##....", "##....", ".....#", "......");
        Checks.same("added up", 0 + 255 + 255 + 255 + 255 + 255 - 63, h.shade(0, 2, 1));
        Checks.samePicture("squares", h, 1, new int[][] {{0, 255, 255}, {255, 255, 192}});
    }

    /** "it would be wider or higher than 12, or a side of the sheet is not divided". */
    private static void shadesDivided() {
        for (int q = 1; q <= 3; q++) {
            for (int side = 1; side <= 24; side++) {
                PictureCodingHouse h = next();
                int by = q;
                for (int turn = 0; turn < 2; turn++) {
                    h.sheet(0, turn == 0 ? side : 6, turn == 0 ? 6 : side);
                    if (side % q == 0 && side / q <= 12) {
                        Checks.same("side " + side + " by " + q, 255 * (side / q) * (6 / q), h.shade(0, q, 1));
                        Checks.same("size", side / q, h.size(0, 1, turn));
                    } else {
                        Checks.refused("side " + side + " by " + q, IllegalStateException.class, h, () -> h.shade(0, by, 1));
                    }
                }
            }
        }
    }

    // ---- greys

    /** "if r by 2^k, rounded down, is less than 12": a run of 47 by k 2, and one of 48. */
    private static void longRuns() {
        for (int r : new int[] {0, 3, 4, 43, 44, 46, 47, 48, 49, 143}) {
            PictureCodingHouse h = next();
            h.picture(0, 12, 12);
            for (int y = 0; y < 12; y++) {
                h.put(0, 0, y, 12, 255);
            }
            h.put(0, r % 12, r / 12, 1, 0);
            int n = h.greys(0, 1, 0);
            StringBuilder bits = new StringBuilder();
            for (int i = 4; i < n; i++) {
                bits.append(Checks.bits(h.byteAt(0, i), 8));
            }
            String due = r < 48 ? "1".repeat(r / 4) + "0" + Checks.bits(r, 2) : "1".repeat(12) + Checks.bits(r, 13);
            Checks.holds("a first run of " + r + ": " + bits, bits.toString().startsWith(due));
            Checks.read("ungrey", h, 144, () -> h.ungrey(0, 1));
            Checks.samePicture("ungrey", h, 1, grid(h, 0));
        }
        PictureCodingHouse h = next();
        h.picture(0, 12, 12);
        for (int y = 0; y < 12; y++) {
            h.put(0, 0, y, 12, 255);
        }
        // all as foretold: one run of 144, or of 432
        Checks.same("one run of 144", 4 + 4, h.greys(0, 1, 0));
        // twelve ones, then 144 in 13 bits: 0000010010000
        Checks.same("its last bits", 0b01001000, h.byteAt(0, 6));
        Checks.same("one run of 432", 4 + 4, h.greys(0, 2, 0));
        Checks.read("ungrey", h, 144, () -> h.ungrey(0, 1));
        Checks.samePicture("ungrey", h, 1, grid(h, 0));
    }

    private static int[][] grid(PictureCodingHouse h, int k) {
        int[][] grid = new int[h.size(0, k, 1)][h.size(0, k, 0)];
        for (int y = 0; y < grid.length; y++) {
            for (int x = 0; x < grid[0].length; x++) {
                grid[y][x] = h.at(k, x, y);
            }
        }
        return grid;
    }

    private static void sameGreys(String what, String... rows) {
        PictureCodingHouse h = next();
        int[][] grey = new int[rows.length][rows[0].length()];
        int[][] samples = new int[rows.length][rows[0].length()];
        for (int y = 0; y < rows.length; y++) {
            for (int x = 0; x < rows[0].length(); x++) {
                grey[y][x] = rows[y].charAt(x) == '#' ? 1 : 0;
                samples[y][x] = 255 - 255 * grey[y][x];
            }
        }
        Checks.draw(h, 0, samples);
        int[] due = Checks.joined(new int[] {72, 1, rows[0].length(), rows.length},
                Checks.packed(HalftonesTest.encoded(grey, 1)));
        Checks.same(what, due.length, h.greys(0, 1, 0));
        Checks.same(what, due, Checks.file(h, 0));
        Checks.read(what, h, rows.length * rows[0].length(), () -> h.ungrey(0, 1));
        Checks.samePicture(what, h, 1, samples);
    }

    /** "to 7 at most", "to -8 at least": a context that was 1, or 0, so often, and then is not, some times. */
    private static void statesAtTheirEnds() {
        String full = "############";
        String light = "............";
        // among dark ones the state is 7; three times light, then twice, makes it fall below 0
        sameGreys("7 at most", full, full, full, full, "###.##.##.##", full, "##.##.##.##.", full, full);
        sameGreys("7 at most", full, full, "###.##.##.##", full, "##.##.##.##.", full, "##.##.##.##.", full);
        sameGreys("-8 at least", light, light, light, "..#.....#...", light, light, "...#....#..#", light, "..#....#...#", light);
        Random random = new Random(9);
        for (int run = 0; run < 500; run++) {
            String[] rows = new String[12];
            int few = 3 + random.nextInt(12);
            boolean isDark = random.nextBoolean();
            for (int y = 0; y < 12; y++) {
                StringBuilder row = new StringBuilder();
                for (int x = 0; x < 12; x++) {
                    boolean other = y > 2 && y % 2 == 0 && random.nextInt(few) == 0;
                    row.append(isDark != other ? '#' : '.');
                }
                rows[y] = row.toString();
            }
            sameGreys("some in areas", rows);
        }
    }

    /** Writing behind reading, and reading behind a fault: nothing of one is left for the next. */
    private static void oneBehindTheOther() {
        Random random = new Random(23);
        for (int run = 0; run < 300; run++) {
            PictureCodingHouse h = next();
            int w = 1 + random.nextInt(12);
            int high = 1 + random.nextInt(12);
            int q = 1 + random.nextInt(2);
            int[][] v = Checks.greys(random, w, high, 255);
            int[][] grey = new int[high][w];
            int[][] read = new int[high][w];
            for (int y = 0; y < high; y++) {
                for (int x = 0; x < w; x++) {
                    grey[y][x] = ((255 - v[y][x]) * q * q + 127) / 255;
                    read[y][x] = 255 - 255 * grey[y][x] / (q * q);
                }
            }
            Checks.draw(h, 0, v);
            int[] due = Checks.joined(new int[] {72, q, w, high}, Checks.packed(HalftonesTest.encoded(grey, q)));
            Checks.same("greys", due.length, h.greys(0, q, 0));
            Checks.same("greys " + run, due, Checks.file(h, 0));
            Checks.read("ungrey", h, w * high, () -> h.ungrey(0, 1));
            Checks.samePicture("ungrey", h, 1, read);
            if (run % 3 == 0) {
                h.cut(0, due.length - 1);
                Checks.holds("cut", h.ungrey(0, 1) < 0);
            } else if (run % 3 == 1) {
                h.feed(0, 255);
                Checks.broken("more", h, 13, 4, () -> h.ungrey(0, 1));
            } else {
                // a run that goes on behind the last bit is left when the next one writes
                Checks.load(h, 0, bits(1, 1, 1, "1110" + "00"));
                Checks.broken("a long run", h, 12, 4, () -> h.ungrey(0, 1));
            }
        }
    }

    // ---- FAULTS

    private static void broken(String what, int number, int... file) {
        PictureCodingHouse h = next();
        Checks.load(h, 0, file);
        Checks.broken(what, h, number, number == 1 ? 0 : 4, () -> h.ungrey(0, 3));
    }

    private static void right(String what, int samples, int... file) {
        PictureCodingHouse h = next();
        Checks.load(h, 0, file);
        Checks.read(what, h, samples, () -> h.ungrey(0, 4));
    }

    private static int[] bits(int q, int w, int h, String bits) {
        return Checks.joined(new int[] {72, q, w, h}, Checks.packed(bits));
    }

    /** "11 the bits end", wherever; "fewer than 4 bytes". */
    private static void cutAnywhere() {
        Random random = new Random(3);
        for (int q = 1; q <= 2; q++) {
            PictureCodingHouse h = next();
            Checks.draw(h, 0, Checks.greys(random, 12, 12, 255));
            h.greys(0, q, 1);
            int[] whole = Checks.file(h, 1);
            for (int n = 0; n < whole.length; n++) {
                broken("cut to " + n, n < 4 ? 1 : 11, Checks.first(whole, n));
            }
        }
        broken("the bits end in 13 bits", 11, bits(1, 12, 12, "1".repeat(12) + "0".repeat(12)));
        right("13 bits", 144, bits(1, 12, 12, "1".repeat(12) + Checks.bits(144, 13)));
    }

    /** "the first is not 72, q is not 1 or 2, a size is not 1 .. 12". */
    private static void heads() {
        for (int first : new int[] {0, 71, 73, 255}) {
            broken("first " + first, 1, first, 1, 1, 1, 0);
        }
        for (int q : new int[] {0, 3, 4, 255}) {
            broken("side " + q, 1, 72, q, 1, 1, 0);
        }
        for (int side : new int[] {0, 13, 24, 255}) {
            broken("width " + side, 1, 72, 1, side, 1, 0, 0, 0);
            broken("height " + side, 1, 72, 1, 1, side, 0, 0, 0);
        }
        for (int q = 1; q <= 2; q++) {
            for (int side = 1; side <= 12; side++) {
                int samples = side * (q == 1 ? 1 : 3);
                String run = samples < 48 ? "1".repeat(samples / 4) + "0" + Checks.bits(samples, 2) : null;
                if (run != null) {
                    right("width " + side, side, bits(q, side, 1, run));
                    Checks.same("width " + side, side, house.size(0, 4, 0));
                    right("height " + side, side, bits(q, 1, side, run));
                    Checks.same("height " + side, side, house.size(0, 4, 1));
                    Checks.same("wholly inside", side, house.size(0, 4, 2));
                }
            }
        }
    }

    /** "12 a run, when it is read, goes on behind the last bit". */
    private static void runsBeyond() {
        // five bits of one plane: a run of 5 is the last one; a run of 4 is wanted to end, and behind it a run of 0
        right("up to the last bit", 5, bits(1, 5, 1, "10" + "01"));
        broken("one beyond it", 12, bits(1, 5, 1, "10" + "10"));
        right("the last bit is not as foretold", 5, bits(1, 5, 1, "10" + "00" + "0" + "00"));
        broken("behind the last bit, a run of 1", 12, bits(1, 5, 1, "10" + "00" + "0" + "01"));
        broken("behind the last bit, a great run", 12, bits(1, 5, 1, "10" + "00" + "111111111111" + "0".repeat(12) + "1"));
        // the second run: 4 bits are left behind a run of 0; k is 1 then
        right("the second run, up to the last bit", 5, bits(1, 5, 1, "000" + "110" + "0"));
        broken("the second run, one beyond it", 12, bits(1, 5, 1, "000" + "110" + "1"));
        broken("told before the bits behind it are wanted", 12, bits(1, 5, 1, "1110" + "00"));
        broken("in the last plane", 12, bits(2, 1, 1, "1" + "0" + "00"));
        right("over three planes", 1, bits(2, 1, 1, "0" + "11"));
    }

    /** "13 behind the end a bit 1 stands, or a byte". */
    private static void behindTheEnd() {
        // a run of 1 takes three bits, 001
        right("filled with 0", 1, bits(1, 1, 1, "001" + "00000"));
        for (int i = 3; i < 8; i++) {
            broken("bit " + i, 13, bits(1, 1, 1, "001" + "0".repeat(i - 3) + "1"));
        }
        for (int behind : new int[] {0, 1, 255}) {
            broken("a byte " + behind, 13, 72, 1, 1, 1, 0b00100000, behind);
        }
        broken("two bytes", 13, 72, 1, 1, 1, 0b00100000, 0, 0);
        // the last bit ends a byte: 5 and 3 bits: a run of 16, 1111000; a run of 20 has eight bits
        right("none fill", 20, bits(1, 10, 2, "11111000"));
        broken("none fill, and a byte", 13, bits(1, 10, 2, "11111000" + "00000000"));
    }

    /** "14 (looked at when all is read) a grey above q q". */
    private static void greysAbove() {
        // bits of the planes from the highest on, each xor the one above; foretold are zeros
        PictureCodingHouse h = next();
        for (int grey = 0; grey < 8; grey++) {
            int told = grey ^ grey >> 1;
            StringBuilder text = new StringBuilder();
            int run = 0;
            int a = 4;
            int m = 1;
            for (int plane = 2; plane >= -1; plane--) {
                if (plane >= 0 && (told >> plane & 1) == 0) {
                    run++;
                    continue;
                }
                int k = 0;
                while (m << k < a) {
                    k++;
                }
                text.append("1".repeat(run >> k)).append('0').append(Checks.bits(run, k));
                a += run;
                m++;
                run = 0;
            }
            if (grey <= 4) {
                right("grey " + grey, 1, bits(2, 1, 1, text.toString()));
                Checks.same("grey " + grey, 255 - 255 * grey / 4, h.at(4, 0, 0));
            } else {
                broken("grey " + grey, 14, bits(2, 1, 1, text.toString()));
            }
        }
    }

    /** Which one is met first. */
    private static void inOrder() {
        broken("12 before 13", 12, 72, 1, 1, 1, 0b01000001, 0);
        // grey 7: 000 100, then two bits fill
        broken("13 before 14", 13, bits(2, 1, 1, "000" + "100" + "01"));
        broken("13 before 14, a byte", 13, bits(2, 1, 1, "000" + "100" + "00" + "00000000"));
        broken("14 alone", 14, bits(2, 1, 1, "000" + "100" + "00"));
    }
}
