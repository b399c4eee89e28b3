import java.util.ArrayList;
import java.util.List;
import java.util.Random;

/** Promises 7 and 8: waves, unwave and wave. */
public final class WavesTest {
    public static void main(String[] args) {
        wrongCalls();
        byHand();
        sameAsReference();
        faults();
        Checks.end();
    }

    // ---- a plain reading of the document, with maps in place of rows

    static int width;
    static int height;
    static boolean[][] inside;
    static int[][] wave;
    private static int[][] part;

    private static void findParts() {
        part = new int[height][width];
        int parts = 0;
        for (int y = 0; y < height; y++) {
            for (int x = 0; x < width; x++) {
                if (inside[y][x] && part[y][x] == 0) {
                    parts++;
                    spread(x, y, parts);
                }
            }
        }
    }

    private static void spread(int x, int y, int number) {
        if (x < 0 || y < 0 || x >= width || y >= height || !inside[y][x] || part[y][x] != 0) {
            return;
        }
        part[y][x] = number;
        spread(x - 1, y, number);
        spread(x + 1, y, number);
        spread(x, y - 1, number);
        spread(x, y + 1, number);
    }

    static void transform(boolean back) {
        findParts();
        for (int step : back ? new int[] {4, 2, 1} : new int[] {1, 2, 4}) {
            for (boolean rows : back ? new boolean[] {false, true} : new boolean[] {true, false}) {
                liftAll(step, rows, back);
            }
        }
    }

    private static void liftAll(int step, boolean rows, boolean back) {
        for (int line = 0; line < (rows ? height : width); line += step) {
            List<int[]> run = new ArrayList<>();
            for (int i = 0; i <= (rows ? width : height) + step; i += step) {
                int x = rows ? i : line;
                int y = rows ? line : i;
                boolean is = x < width && y < height && inside[y][x];
                if (!run.isEmpty()) {
                    int[] last = run.get(run.size() - 1);
                    if (!is || part[y][x] != part[last[1]][last[0]]) {
                        lift(run, step, rows, back);
                        run.clear();
                    }
                }
                if (is) {
                    run.add(new int[] {x, y});
                }
            }
        }
    }

    private static void lift(List<int[]> run, int step, boolean rows, boolean back) {
        for (int odd : back ? new int[] {0, 1} : new int[] {1, 0}) {
            for (int i = 0; i < run.size(); i++) {
                int[] at = run.get(i);
                int place = (rows ? at[0] : at[1]) / step;
                Integer before = i > 0 ? value(run.get(i - 1)) : null;
                Integer behind = i + 1 < run.size() ? value(run.get(i + 1)) : null;
                if (place % 2 != odd || before == null && behind == null) {
                    continue;
                }
                int sum = (before == null ? behind : before) + (behind == null ? before : behind);
                int change = odd == 1 ? -Math.floorDiv(sum, 2) : Math.floorDiv(sum + 2, 4);
                wave[at[1]][at[0]] += back ? -change : change;
            }
        }
    }

    private static int value(int[] at) {
        return wave[at[1]][at[0]];
    }

    private static StringBuilder bits;
    private static boolean[][][] open;
    // how many bits are known, and what by them
    private static int limit;
    private static int[][] known;
    private static boolean[][] signed;

    private static String runs() {
        StringBuilder text = new StringBuilder();
        boolean colour = false;
        int run = 0;
        for (int i = 0; i < width * height; i++) {
            if (inside[i / width][i % width] != colour) {
                text.append(Checks.counted(run + 1));
                run = 0;
                colour = !colour;
            }
            run++;
        }
        return text.append(Checks.counted(run + 1)).toString();
    }

    private static void encode() {
        int greatest = 0;
        for (int y = 0; y < height; y++) {
            for (int x = 0; x < width; x++) {
                greatest = inside[y][x] ? Math.max(greatest, Math.abs(wave[y][x])) : greatest;
            }
        }
        int planes = 32 - Integer.numberOfLeadingZeros(greatest);
        bits = new StringBuilder();
        bits.append(Checks.bits(width - 1, 4)).append(Checks.bits(height - 1, 4)).append(Checks.bits(planes, 5));
        bits.append(runs());
        open = new boolean[9][16][16];
        known = new int[height][width];
        signed = new boolean[height][width];
        for (int p = planes - 1; p >= 0; p--) {
            for (int y = 0; y < height; y += 8) {
                for (int x = 0; x < width; x += 8) {
                    square(x, y, 8, p);
                }
            }
        }
    }

    private static boolean isKnown() {
        return bits.length() <= limit;
    }

    private static void square(int x, int y, int side, int p) {
        boolean some = false;
        boolean above = false;
        for (int j = y; j < Math.min(height, y + side); j++) {
            for (int i = x; i < Math.min(width, x + side); i++) {
                some |= inside[j][i];
                above |= inside[j][i] && Math.abs(wave[j][i]) >= 1 << p;
            }
        }
        if (!some) {
            return;
        }
        boolean was = open[side][y][x];
        if (!was) {
            bits.append(above ? 1 : 0);
            if (!above) {
                return;
            }
            open[side][y][x] = true;
        }
        if (side == 1) {
            if (!was) {
                bits.append(wave[y][x] < 0 ? 1 : 0);
                if (isKnown()) {
                    known[y][x] = wave[y][x] < 0 ? -(1 << p) : 1 << p;
                }
            } else {
                int bit = Math.abs(wave[y][x]) >> p & 1;
                bits.append(bit);
                if (isKnown()) {
                    known[y][x] += (wave[y][x] < 0 ? -1 : 1) * (bit << p);
                }
            }
            return;
        }
        square(x, y, side / 2, p);
        square(x + side / 2, y, side / 2, p);
        square(x, y + side / 2, side / 2, p);
        square(x + side / 2, y + side / 2, side / 2, p);
    }

    private static void sameAsReference() {
        Random random = new Random(3);
        for (int run = 0; run < 300; run++) {
            width = 1 + random.nextInt(12);
            height = 1 + random.nextInt(12);
            int[][] grey = Checks.greys(random, width, height, 255);
            inside = Checks.maskOf(random, width, height);
            PictureCodingHouse house = new PictureCodingHouse();
            Checks.draw(house, 2, grey);
            Checks.mask(house, 2, inside);
            wave = new int[height][];
            for (int y = 0; y < height; y++) {
                wave[y] = grey[y].clone();
            }
            transform(false);
            int[][] lifted = wave;
            int tries = 0;
            for (int y = 0; y < height && tries < 60; y++) {
                for (int x = 0; x < width; x += 1 + random.nextInt(3)) {
                    Checks.same("wave", inside[y][x] ? wave[y][x] : 100000, house.wave(2, x, y));
                    tries++;
                }
            }
            limit = 60000;
            encode();
            String all = bits.toString();
            int head = 13 + runs().length();
            Checks.same("waves", (all.length() + 7) / 8, house.waves(2, 60000, 0));
            Checks.same("waves", Checks.packed(all), Checks.file(house, 0));
            Checks.same("unwave", all.length(), house.unwave(0, 60000, 3));
            Checks.noFault("unwave", house);
            Checks.sameMask("read", house, 3, inside);
            for (int y = 0; y < height; y++) {
                for (int x = 0; x < width; x++) {
                    Checks.same("read", inside[y][x] ? grey[y][x] : 0, house.at(3, x, y));
                }
            }
            for (int i = 0; i < 8; i++) {
                int cut = random.nextInt(all.length() + 1);
                Checks.same("cut", (cut + 7) / 8, house.waves(2, cut, 1));
                Checks.same("cut", Checks.packed(all.substring(0, cut)), Checks.file(house, 1));
                int answer = house.unwave(0, cut, 4);
                if (cut < head) {
                    Checks.sameFault("head is cut", house, answer, 1, 0);
                    continue;
                }
                Checks.same("bits taken", cut, answer);
                wave = lifted;
                limit = cut;
                encode();
                wave = known;
                transform(true);
                for (int y = 0; y < height; y++) {
                    for (int x = 0; x < width; x++) {
                        int due = inside[y][x] ? Math.max(0, Math.min(255, wave[y][x])) : 0;
                        Checks.same("known", due, house.at(4, x, y));
                    }
                }
            }
        }
    }

    private static void wrongCalls() {
        PictureCodingHouse house = new PictureCodingHouse();
        house.picture(0, 4, 4);
        Checks.index("waves", () -> house.waves(8, -1, 0));
        Checks.index("waves", () -> house.waves(1, -1, 12));
        Checks.state("waves", () -> house.waves(1, -1, 0));
        Checks.argument("waves", () -> house.waves(0, -1, 0));
        Checks.argument("waves", () -> house.waves(0, 60001, 0));
        Checks.index("unwave", () -> house.unwave(12, -1, 0));
        Checks.index("unwave", () -> house.unwave(0, -1, 8));
        Checks.argument("unwave", () -> house.unwave(0, -1, 0));
        Checks.argument("unwave", () -> house.unwave(0, 60001, 0));
        Checks.index("wave", () -> house.wave(0, 4, 0));
        Checks.index("wave", () -> house.wave(8, 0, 0));
        Checks.state("wave", () -> house.wave(1, 4, 0));
        Checks.same("no work", 0, house.told(0));
    }

    private static void byHand() {
        PictureCodingHouse house = new PictureCodingHouse();
        house.picture(0, 3, 1);
        house.put(0, 0, 0, 1, 10);
        house.put(0, 1, 0, 1, 20);
        house.put(0, 2, 0, 1, 41);
        // 20 - 51/2 = -5; 10 + (-10 + 2)/4 = 8; 41 - 2 = 39; step 2: 39 - 8 = 31; 8 + (62 + 2)/4 = 24
        Checks.same("wave", -5, house.wave(0, 1, 0));
        Checks.same("wave", 31, house.wave(0, 2, 0));
        Checks.same("wave", 24, house.wave(0, 0, 0));
        house.shape(0, 1, 0, 1, false);
        Checks.same("wave outside", 100000, house.wave(0, 1, 0));
        Checks.same("wave alone", 10, house.wave(0, 0, 0));
        // two parts: no row of points has both
        Checks.same("wave alone", 41, house.wave(0, 2, 0));
        house.picture(1, 1, 1);
        house.shape(1, 0, 0, 1, false);
        Checks.same("nothing inside", 2, house.waves(1, 60000, 0));
        // 0000 0000 00000, a run of one outside: 010
        Checks.same("nothing inside", new int[] {0, 2}, Checks.file(house, 0));
        Checks.same("nothing inside", 16, house.unwave(0, 60000, 2));
        Checks.same("nothing inside", 0, house.size(0, 2, 2));
    }

    private static void broken(String what, String text, int limit, int number) {
        PictureCodingHouse house = new PictureCodingHouse();
        Checks.load(house, 0, Checks.packed(text));
        Checks.sameFault(what, house, house.unwave(0, limit, 0), number, 0);
        Checks.same(what, -1, house.size(0, 0, 0));
    }

    static String head(int w, int h, int planes) {
        return Checks.bits(w - 1, 4) + Checks.bits(h - 1, 4) + Checks.bits(planes, 5);
    }

    private static void faults() {
        broken("empty", "", 60000, 1);
        broken("no bits", head(2, 2, 1) + "1" + Checks.counted(5), 0, 1);
        broken("limit in the head", head(2, 2, 0) + "1" + Checks.counted(5), 18, 1);
        broken("21 planes", head(2, 2, 21) + "1" + Checks.counted(5) + "00", 60000, 1);
        broken("a run of none", head(2, 2, 1) + Checks.counted(2) + "1" + Checks.counted(4), 60000, 1);
        broken("a run too long", head(2, 2, 1) + "1" + Checks.counted(6), 60000, 1);
        broken("a run too long", head(2, 2, 1) + Checks.counted(4) + Checks.counted(3), 60000, 1);
        broken("17 bits 0", head(2, 2, 1) + "0".repeat(17) + "1".repeat(99), 60000, 1);
        broken("wide", head(13, 2, 0) + "1" + Checks.counted(27), 60000, 2);
        broken("high", head(2, 16, 0) + Checks.counted(33), 60000, 2);
        broken("wide, but the head is wrong", head(13, 2, 0) + "1" + Checks.counted(28), 60000, 1);
        PictureCodingHouse house = new PictureCodingHouse();
        // 20 planes, and a wave of 2 to the 19
        Checks.load(house, 0, Checks.packed(head(1, 1, 20) + "1" + Checks.counted(2) + "11110"));
        Checks.same("20 planes", 13 + 1 + 3 + 5 + 2, house.unwave(0, 60000, 0));
        Checks.same("brought to 255", 255, house.at(0, 0, 0));
        Checks.load(house, 0, Checks.packed(head(1, 1, 20) + "1" + Checks.counted(2) + "11111"));
        Checks.same("a sign", 22, house.unwave(0, 22, 0));
        Checks.same("brought to 0", 0, house.at(0, 0, 0));
        Checks.same("before the sign", 21, house.unwave(0, 21, 0));
        Checks.same("nothing is known", 0, house.at(0, 0, 0));
        Checks.same("a run of none at first, to the end", 17, house.unwave(0, 17, 0));
    }
}
