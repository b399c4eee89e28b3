import java.util.ArrayList;
import java.util.List;
import java.util.Random;
import java.util.function.IntSupplier;

/** What the tests share: checks that print what is wrong, bytes and bits, and files of a house. */
final class Checks {
    private static int failures = 0;
    private static int checks = 0;

    private Checks() {
    }

    static void same(String what, long due, long got) {
        checks++;
        if (due != got) {
            failures++;
            if (failures <= 40) {
                System.out.println(what + ": got " + got + ", due is " + due);
            }
        }
    }

    static void same(String what, int[] due, int[] got) {
        checks++;
        if (!java.util.Arrays.equals(due, got)) {
            failures++;
            if (failures <= 40) {
                int i = java.util.Arrays.mismatch(due, got);
                System.out.println(what + ": got " + got.length + " bytes, due are " + due.length
                        + ", other from " + i + " on: got " + shortText(got, i) + ", due is " + shortText(due, i));
            }
        }
    }

    private static String shortText(int[] bytes, int from) {
        int to = Math.min(bytes.length, from + 16);
        return java.util.Arrays.toString(java.util.Arrays.copyOfRange(bytes, Math.min(from, to), to));
    }

    static void holds(String what, boolean holds) {
        same(what, 1, holds ? 1 : 0);
    }

    static void index(String what, Runnable call) {
        fails(what, IndexOutOfBoundsException.class, call);
    }

    static void state(String what, Runnable call) {
        fails(what, IllegalStateException.class, call);
    }

    static void argument(String what, Runnable call) {
        fails(what, IllegalArgumentException.class, call);
    }

    static void support(String what, Runnable call) {
        fails(what, UnsupportedOperationException.class, call);
    }

    private static void fails(String what, Class<?> due, Runnable call) {
        Class<?> got = null;
        try {
            call.run();
        } catch (RuntimeException e) {
            got = e.getClass();
        }
        holds(what + " throws " + got + ", due is " + due, got == due);
    }

    /** Ends the test: with exit code 1 if a check was not met. */
    static void end() {
        System.out.println(checks + " checks, " + failures + " not met");
        if (failures > 0) {
            System.exit(1);
        }
    }

    // ---- files

    static void load(PictureCodingHouse house, int f, int[] bytes) {
        house.cut(f, 0);
        for (int b : bytes) {
            house.feed(f, b);
        }
    }

    static int[] file(PictureCodingHouse house, int f) {
        int[] bytes = new int[house.size(2, f, 0)];
        for (int i = 0; i < bytes.length; i++) {
            bytes[i] = house.byteAt(f, i);
        }
        return bytes;
    }

    static int[] bytes(List<Integer> list) {
        int[] bytes = new int[list.size()];
        for (int i = 0; i < bytes.length; i++) {
            bytes[i] = list.get(i) & 255;
        }
        return bytes;
    }

    static void addNumber(List<Integer> list, long v, int count) {
        for (int i = count - 1; i >= 0; i--) {
            list.add((int) (v >> 8 * i & 255));
        }
    }

    static int[] joined(int[]... rows) {
        List<Integer> all = new ArrayList<>();
        for (int[] row : rows) {
            for (int b : row) {
                all.add(b);
            }
        }
        return bytes(all);
    }

    static int[] first(int[] bytes, int n) {
        return java.util.Arrays.copyOf(bytes, n);
    }

    static int[] altered(int[] bytes, int i, int b) {
        int[] other = bytes.clone();
        other[i] = b;
        return other;
    }

    // ---- bits, as texts of 0 and 1

    static String bits(long v, int n) {
        StringBuilder text = new StringBuilder();
        for (int i = n - 1; i >= 0; i--) {
            text.append(v >> i & 1);
        }
        return text.toString();
    }

    /** As many 0 as the number has bits behind its highest one, then its bits. */
    static String counted(int number) {
        String digits = Integer.toBinaryString(number);
        return "0".repeat(digits.length() - 1) + digits;
    }

    /** Bytes of bits, the highest of a byte first, the last one filled with 0. */
    static int[] packed(String bits) {
        int[] bytes = new int[(bits.length() + 7) / 8];
        for (int i = 0; i < bits.length(); i++) {
            if (bits.charAt(i) == '1') {
                bytes[i / 8] |= 128 >> i % 8;
            }
        }
        return bytes;
    }

    /** The same, the lowest of a byte first. */
    static int[] packedLow(String bits) {
        int[] bytes = new int[(bits.length() + 7) / 8];
        for (int i = 0; i < bits.length(); i++) {
            if (bits.charAt(i) == '1') {
                bytes[i / 8] |= 1 << i % 8;
            }
        }
        return bytes;
    }

    // ---- codes

    /** Lengths of codes by counts: the two least are joined till one is left. */
    static int[] joinedLengths(int[] counts) {
        List<List<Integer>> nodes = new ArrayList<>();
        List<Integer> weights = new ArrayList<>();
        for (int s = 0; s < counts.length; s++) {
            if (counts[s] > 0) {
                nodes.add(List.of(s));
                weights.add(counts[s]);
            }
        }
        int[] lengths = new int[counts.length];
        if (nodes.size() == 1) {
            lengths[nodes.get(0).get(0)] = 1;
        }
        while (nodes.size() > 1) {
            List<Integer> joined = new ArrayList<>();
            int weight = 0;
            for (int pick = 0; pick < 2; pick++) {
                int least = 0;
                for (int i = 1; i < nodes.size(); i++) {
                    if (weights.get(i) < weights.get(least)) {
                        least = i;
                    }
                }
                joined.addAll(nodes.remove(least));
                weight += weights.remove(least);
            }
            for (int s : joined) {
                lengths[s]++;
            }
            nodes.add(joined);
            weights.add(weight);
        }
        return lengths;
    }

    /** Codes by lengths, from the shortest on, then by symbols; null for one that has none. */
    static String[] codes(int[] lengths) {
        String[] codes = new String[lengths.length];
        int next = 0;
        for (int length = 1; length <= 15; length++) {
            next <<= 1;
            for (int s = 0; s < lengths.length; s++) {
                if (lengths[s] == length) {
                    codes[s] = bits(next++, length);
                }
            }
        }
        return codes;
    }

    // ---- pictures and sheets

    static void draw(PictureCodingHouse house, int k, int[][] grey) {
        house.picture(k, grey[0].length, grey.length);
        for (int y = 0; y < grey.length; y++) {
            for (int x = 0; x < grey[0].length; x++) {
                house.put(k, x, y, 1, grey[y][x]);
            }
        }
    }

    static void mask(PictureCodingHouse house, int k, boolean[][] inside) {
        for (int y = 0; y < inside.length; y++) {
            for (int x = 0; x < inside[0].length; x++) {
                house.shape(k, x, y, 1, inside[y][x]);
            }
        }
    }

    static void drawSheet(PictureCodingHouse house, int s, String... rows) {
        house.sheet(s, rows[0].length(), rows.length);
        for (int y = 0; y < rows.length; y++) {
            for (int x = 0; x < rows[y].length(); x++) {
                if (rows[y].charAt(x) == '#') {
                    house.ink(s, x, y, 1, true);
                }
            }
        }
    }

    static String[] sheet(PictureCodingHouse house, int s) {
        String[] rows = new String[house.size(1, s, 1)];
        for (int y = 0; y < rows.length; y++) {
            StringBuilder row = new StringBuilder();
            for (int x = 0; x < house.size(1, s, 0); x++) {
                row.append(house.isDark(s, x, y) ? '#' : '.');
            }
            rows[y] = row.toString();
        }
        return rows;
    }

    static void sameSheet(String what, PictureCodingHouse house, int s, String... rows) {
        String got = String.join("/", sheet(house, s));
        holds(what + ": got " + got + ", due is " + String.join("/", rows), got.equals(String.join("/", rows)));
    }

    static void samePicture(String what, PictureCodingHouse house, int k, int[][] grey) {
        same(what + " width", grey[0].length, house.size(0, k, 0));
        same(what + " height", grey.length, house.size(0, k, 1));
        if (house.size(0, k, 0) != grey[0].length || house.size(0, k, 1) != grey.length) {
            return;
        }
        for (int y = 0; y < grey.length; y++) {
            for (int x = 0; x < grey[0].length; x++) {
                same(what + " at " + x + " " + y, grey[y][x], house.at(k, x, y));
            }
        }
    }

    static void sameMask(String what, PictureCodingHouse house, int k, boolean[][] inside) {
        for (int y = 0; y < inside.length; y++) {
            for (int x = 0; x < inside[0].length; x++) {
                holds(what + " inside at " + x + " " + y, inside[y][x] == house.isInside(k, x, y));
            }
        }
    }

    /** Greys of some sort: any, smooth, few, or of one value but for some. */
    static int[][] greys(Random random, int width, int height, int top) {
        int[][] grey = new int[height][width];
        int sort = random.nextInt(4);
        int base = random.nextInt(top + 1);
        for (int y = 0; y < height; y++) {
            for (int x = 0; x < width; x++) {
                int v = random.nextInt(top + 1);
                if (sort == 1) {
                    v = base + (x * 5 + y * 3) / 2 + random.nextInt(3);
                } else if (sort == 2) {
                    v = random.nextBoolean() ? 0 : top;
                } else if (sort == 3 && random.nextInt(8) > 0) {
                    v = base;
                }
                grey[y][x] = Math.max(0, Math.min(top, v));
            }
        }
        return grey;
    }

    static boolean[][] maskOf(Random random, int width, int height) {
        boolean[][] inside = new boolean[height][width];
        int share = random.nextInt(5);
        for (boolean[] row : inside) {
            for (int x = 0; x < width; x++) {
                row[x] = random.nextInt(4) < share;
            }
        }
        return inside;
    }

    /** Checks that the latest UN.. call, that answered so, met a fault at a place. */
    static void sameFault(String what, PictureCodingHouse house, int answer, int number, int place) {
        same(what + " answer", -1 - place, answer);
        same(what + " fault", number, house.fault(0));
        same(what + " place", place, house.fault(1));
    }

    static void noFault(String what, PictureCodingHouse house) {
        same(what + " fault", 0, house.fault(0));
        same(what + " place", PictureCodingHouse.NONE, house.fault(1));
    }

    // ---- what a house shows

    /** All that can be told of a house without changing it. */
    static String snapshot(PictureCodingHouse h) {
        return things(h) + h.told(0) + ' ' + h.fault(0) + ' ' + h.fault(1);
    }

    /** The same without WORK and FAULT, which a reading call changes also where something is wrong. */
    static String things(PictureCodingHouse h) {
        StringBuilder text = new StringBuilder();
        for (int k = 0; k < 8; k++) {
            int w = h.size(0, k, 0);
            int high = h.size(0, k, 1);
            text.append(w).append('x').append(high).append(' ');
            for (int y = 0; y < high; y++) {
                for (int x = 0; x < w; x++) {
                    text.append(h.at(k, x, y)).append(h.isInside(k, x, y) ? '+' : '-');
                }
            }
            try {
                text.append(h.value(k));
            } catch (IllegalStateException e) {
                text.append("none");
            }
            for (int other = 0; other < 8; other++) {
                text.append(h.waited(k, other)).append(' ');
            }
        }
        for (int s = 0; s < 4; s++) {
            text.append(h.size(1, s, 0)).append('x').append(h.size(1, s, 1)).append(' ');
            if (h.size(1, s, 0) > 0) {
                text.append(String.join("/", sheet(h, s)));
            }
        }
        for (int f = 0; f < 12; f++) {
            text.append(java.util.Arrays.toString(file(h, f)));
        }
        for (int what = 1; what <= 16; what++) {
            text.append(h.told(what)).append(' ');
        }
        for (int t = 0; t < h.told(3); t++) {
            for (int what = 0; what < 8; what++) {
                text.append(h.tile(t, what)).append(' ');
            }
        }
        for (int i = 0; i < h.told(15); i++) {
            text.append(h.finished(i)).append(' ');
        }
        for (int side = 0; side < 4; side++) {
            try {
                text.append(h.near(side)).append(' ');
            } catch (IllegalStateException e) {
                text.append("none ");
            }
        }
        return text.toString();
    }

    // ---- calls that are refused, files that are wrong

    /** Checks that a call throws this, and that nothing has changed behind it. */
    static void refused(String what, Class<?> due, PictureCodingHouse house, Runnable call) {
        String before = snapshot(house);
        fails(what, due, call);
        holds(what + " changes nothing", before.equals(snapshot(house)));
    }

    /** Checks that a reading call meets this fault at this place, and that nothing but the FAULT has changed. */
    static void broken(String what, PictureCodingHouse house, int number, int place, IntSupplier call) {
        String before = things(house);
        int work = house.told(0);
        sameFault(what, house, call.getAsInt(), number, place);
        same(what + " is WORK", work + 1, house.told(0));
        holds(what + " changes nothing", before.equals(things(house)));
    }

    /** Checks that a reading call answers this, and meets no fault. */
    static void read(String what, PictureCodingHouse house, int due, IntSupplier call) {
        int work = house.told(0);
        same(what, due, call.getAsInt());
        noFault(what, house);
        same(what + " is WORK", work + 1, house.told(0));
    }
}
