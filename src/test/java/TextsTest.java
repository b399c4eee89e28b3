import java.util.ArrayList;
import java.util.Arrays;
import java.util.List;
import java.util.Random;

/** Promises 11 and 12: parts, text and untext. */
public final class TextsTest {
    public static void main(String[] args) {
        wrongCalls();
        parts();
        byHand();
        sameAsReference();
        readMore();
        faults();
        anyBytes();
        Checks.end();
    }

    private static void wrongCalls() {
        PictureCodingHouse house = new PictureCodingHouse();
        house.sheet(0, 9, 9);
        Checks.index("parts", () -> house.parts(4, 2));
        Checks.state("parts", () -> house.parts(1, 2));
        Checks.argument("parts", () -> house.parts(0, 2));
        Checks.argument("parts", () -> house.parts(0, -1));
        Checks.index("text", () -> house.text(4, 2, 9, 0));
        Checks.index("text", () -> house.text(1, 2, 9, 12));
        Checks.state("text", () -> house.text(1, 2, 9, 0));
        Checks.argument("text", () -> house.text(0, 2, 0, 0));
        Checks.argument("text", () -> house.text(0, -1, 0, 0));
        Checks.argument("text", () -> house.text(0, 0, 9, 0));
        Checks.argument("text", () -> house.text(0, 0, -1, 0));
        Checks.index("untext", () -> house.untext(12, 0));
        Checks.index("untext", () -> house.untext(0, 4));
        Checks.same("no work", 0, house.told(0));
    }

    private static void parts() {
        PictureCodingHouse house = new PictureCodingHouse();
        house.sheet(0, 24, 24);
        Checks.same("none", 0, house.parts(0, 0));
        Checks.same("none", 0, house.parts(0, 1));
        Checks.drawSheet(house, 0, "#.#", "##.", "..#", ".##");
        Checks.same("parts", 3, house.parts(0, 0));
        Checks.same("symbols", 3, house.parts(0, 1));
        Checks.drawSheet(house, 0, "####", "#..#", "#.##", "####", "....", "...#");
        // one in a bend of another: their boxes, and only their own samples in them
        Checks.drawSheet(house, 0, "###..###", "#....#..", "#.#..#..", "........", "......#.");
        Checks.same("parts", 4, house.parts(0, 0));
        Checks.same("symbols", 2, house.parts(0, 1));
        Checks.drawSheet(house, 0, "########", "........", "#########".substring(1));
        Checks.same("symbols", 1, house.parts(0, 1));
        greatBoxes();
        Checks.drawSheet(house, 0, "#########");
        Checks.same("too wide", -1, house.parts(0, 1));
        Checks.same("too wide", 1, house.parts(0, 0));
        Checks.same("no text", -1, house.text(0, 0, 0, 3));
        Checks.same("it is work", 1, house.told(0));
        Checks.same("no file", 0, house.size(2, 3, 0));
        house.sheet(0, 24, 24);
        for (int y = 0; y < 24; y++) {
            for (int x = y % 2; x < 24; x += 2) {
                house.ink(0, x, y, 1, true);
            }
        }
        Checks.same("288 parts", 288, house.parts(0, 0));
        Checks.same("one symbol", 1, house.parts(0, 1));
        Checks.same("more than 40", -1, house.text(0, 1, 8, 3));
        house.sheet(0, 24, 24);
        for (int i = 0; i < 41; i++) {
            house.ink(0, 2 * i % 24, i / 12 * 2, 1, true);
        }
        Checks.same("41 parts", -1, house.text(0, 0, 0, 3));
        house.ink(0, 0, 0, 1, false);
        Checks.holds("40 parts", house.text(0, 0, 0, 3) > 0);
        Checks.same("untext", 40, house.untext(3, 1));
        many();
    }

    /** Boxes of 8 times 8 samples, that differ in their last sample alone. */
    private static void greatBoxes() {
        PictureCodingHouse house = new PictureCodingHouse();
        house.sheet(0, 20, 20);
        for (int y = 0; y < 8; y++) {
            house.ink(0, 0, y, 8, true);
            house.ink(0, 10, y, 8, true);
            house.ink(0, 0, 10 + y, 8, true);
        }
        Checks.same("parts", 3, house.parts(0, 0));
        Checks.same("one symbol", 1, house.parts(0, 1));
        // its box stays, as its sides do
        house.ink(0, 17, 7, 1, false);
        house.ink(0, 7, 17, 1, false);
        Checks.same("two symbols", 2, house.parts(0, 1));
        Checks.holds("text", house.text(0, 1, 0, 0) > 0);
        Checks.same("untext", 3, house.untext(0, 1));
        Checks.same("apart", 0, house.apart(0, 1));
        Checks.same("the second symbol's last row", 254, house.byteAt(0, 5 + 10 + 9));
        house.ink(0, 0, 8, 1, true);
        Checks.same("too high", -1, house.parts(0, 1));
    }

    /** 17 symbols are too many for a text, but are counted. */
    private static void many() {
        PictureCodingHouse house = new PictureCodingHouse();
        house.sheet(0, 24, 24);
        int count = 0;
        for (int w = 1; w <= 4; w++) {
            for (int h = 1; h <= 4; h++) {
                for (int y = 0; y < h; y++) {
                    house.ink(0, (w - 1) * 6, (h - 1) * 5 + y, w, true);
                }
                count++;
            }
        }
        Checks.same("symbols", 16, house.parts(0, 1));
        Checks.holds("16 symbols", house.text(0, 0, 0, 1) > 0);
        house.ink(0, 0, 23, 5, true);
        Checks.same("symbols", count + 1, house.parts(0, 1));
        Checks.same("17 symbols", -1, house.text(0, 0, 0, 2));
    }

    private static void byHand() {
        PictureCodingHouse house = new PictureCodingHouse();
        Checks.drawSheet(house, 0, "....", ".##.");
        // one instance: 010; 0; y 17: 000010010; x 1, so 2: 011; the name 1, a place 0; 0; 0
        Checks.same("text", 5 + 3 + 4, house.text(0, 1, 0, 0));
        Checks.same("text", Checks.joined(new int[] {84, 1, 4, 2, 1, 2, 1, 192},
                Checks.packed("010" + "00000000" + "000010010" + "011" + "1" + "0" + "0")), Checks.file(house, 0));
        Checks.same("text by codes", 5 + 3 + 4, house.text(0, 0, 0, 0));
        Checks.same("text by codes", Checks.joined(new int[] {84, 0, 4, 2, 1, 2, 1, 192},
                Checks.packed("010" + "00000000" + "0001" + "000010010" + "011" + "0" + "0" + "0")),
                Checks.file(house, 0));
        house.sheet(0, 3, 3);
        Checks.same("empty text", 7, house.text(0, 0, 3, 0));
        Checks.same("empty text", new int[] {84, 0, 3, 3, 0, 128, 0}, Checks.file(house, 0));
        Checks.same("empty text is read", 0, house.untext(0, 1));
        Checks.sameSheet("empty text is read", house, 1, "...", "...", "...");
    }

    // ---- a plain reading of the document

    static List<int[]> boxes;
    private static List<String> shapes;
    static List<String> symbols;

    static void study(String[] rows) {
        boxes = new ArrayList<>();
        shapes = new ArrayList<>();
        symbols = new ArrayList<>();
        int h = rows.length;
        int w = rows[0].length();
        boolean[][] seen = new boolean[h][w];
        for (int y = 0; y < h; y++) {
            for (int x = 0; x < w; x++) {
                if (rows[y].charAt(x) == '#' && !seen[y][x]) {
                    List<int[]> dots = new ArrayList<>();
                    collect(rows, seen, x, y, dots);
                    int left = dots.stream().mapToInt(d -> d[0]).min().getAsInt();
                    int right = dots.stream().mapToInt(d -> d[0]).max().getAsInt();
                    int up = dots.stream().mapToInt(d -> d[1]).min().getAsInt();
                    int low = dots.stream().mapToInt(d -> d[1]).max().getAsInt();
                    char[][] shape = new char[low - up + 1][right - left + 1];
                    for (char[] row : shape) {
                        Arrays.fill(row, '0');
                    }
                    for (int[] d : dots) {
                        shape[d[1] - up][d[0] - left] = '1';
                    }
                    StringBuilder text = new StringBuilder();
                    for (char[] row : shape) {
                        text.append(row).append('/');
                    }
                    boxes.add(new int[] {left, up, right - left + 1, low - up + 1});
                    shapes.add(text.toString());
                    if (!symbols.contains(text.toString())) {
                        symbols.add(text.toString());
                    }
                }
            }
        }
    }

    private static void collect(String[] rows, boolean[][] seen, int x, int y, List<int[]> dots) {
        if (x < 0 || y < 0 || y >= rows.length || x >= rows[0].length() || seen[y][x] || rows[y].charAt(x) != '#') {
            return;
        }
        seen[y][x] = true;
        dots.add(new int[] {x, y});
        collect(rows, seen, x + 1, y, dots);
        collect(rows, seen, x - 1, y, dots);
        collect(rows, seen, x, y + 1, dots);
        collect(rows, seen, x, y - 1, dots);
    }

    static String number(int n) {
        return Checks.counted(n + 1);
    }

    static String signed(int v) {
        return number(v >= 0 ? 2 * v : -2 * v - 1);
    }

    private static String bitsOf(List<Integer> order, int naming) {
        int[] counts = new int[symbols.size()];
        for (String shape : shapes) {
            counts[symbols.indexOf(shape)]++;
        }
        int[] lengths = Checks.joinedLengths(counts);
        String[] codes = Checks.codes(lengths);
        StringBuilder text = new StringBuilder(number(order.size()) + "00000000");
        if (naming == 0) {
            for (int length : lengths) {
                text.append(Checks.bits(length, 4));
            }
        }
        List<Integer> row = new ArrayList<>();
        for (int s = 0; s < symbols.size(); s++) {
            row.add(s);
        }
        int firstX = 0;
        for (int i = 0; i < order.size(); i++) {
            int[] box = boxes.get(order.get(i));
            int[] before = i == 0 ? null : boxes.get(order.get(i - 1));
            if (before != null && before[1] == box[1]) {
                text.append('1').append(signed(box[0] - before[0] - before[2]));
            } else {
                text.append(number(before == null ? box[1] + 16 : box[1] - before[1] - 1));
                text.append(signed(box[0] - firstX));
                firstX = box[0];
            }
            Integer symbol = symbols.indexOf(shapes.get(order.get(i)));
            if (naming == 0) {
                text.append(codes[symbol]);
            } else {
                text.append(number(row.indexOf(symbol)));
                row.remove(symbol);
                row.add(0, symbol);
            }
            text.append('0');
            if (i + 1 == order.size() || boxes.get(order.get(i + 1))[1] != box[1]) {
                text.append('0');
            }
        }
        return text.toString();
    }

    static int[] reference(String[] rows, int naming, int tries) {
        List<Integer> order = new ArrayList<>();
        for (int i = 0; i < boxes.size(); i++) {
            order.add(i);
        }
        order.sort((p, q) -> boxes.get(p)[1] - boxes.get(q)[1]);
        for (int t = 0; t < tries; t++) {
            boolean some = false;
            for (int i = 0; i + 1 < order.size(); i++) {
                if (boxes.get(order.get(i))[1] == boxes.get(order.get(i + 1))[1]) {
                    List<Integer> other = new ArrayList<>(order);
                    other.set(i, order.get(i + 1));
                    other.set(i + 1, order.get(i));
                    if (bitsOf(other, naming).length() < bitsOf(order, naming).length()) {
                        order = other;
                        some = true;
                    }
                }
            }
            if (!some) {
                break;
            }
        }
        List<Integer> head = new ArrayList<>(List.of(84, naming, rows[0].length(), rows.length, symbols.size()));
        for (String symbol : symbols) {
            String[] lines = symbol.split("/");
            head.add(lines[0].length());
            head.add(lines.length);
            for (String line : lines) {
                head.add(Checks.packed(line)[0]);
            }
        }
        return Checks.joined(Checks.bytes(head), Checks.packed(bitsOf(order, naming)));
    }

    static String[] someSheet(Random random) {
        int w = 1 + random.nextInt(24);
        int h = 1 + random.nextInt(24);
        char[][] rows = new char[h][w];
        for (char[] row : rows) {
            Arrays.fill(row, '.');
        }
        int sort = random.nextInt(3);
        int few = 2 + random.nextInt(14);
        for (int y = 0; y < h; y++) {
            for (int x = 0; x < w; x++) {
                if (sort == 0 && random.nextInt(few) == 0) {
                    rows[y][x] = '#';
                } else if (sort == 1 && x % 4 < random.nextInt(4) && y % 5 < 2) {
                    rows[y][x] = '#';
                } else if (sort == 2 && y % 4 == 0 && random.nextInt(3) == 0) {
                    rows[y][x] = '#';
                    rows[y][Math.max(0, x - 1)] = '#';
                    rows[Math.min(h - 1, y + random.nextInt(3))][x] = '#';
                }
            }
        }
        String[] lines = new String[h];
        for (int y = 0; y < h; y++) {
            lines[y] = new String(rows[y]);
        }
        return lines;
    }

    private static void sameAsReference() {
        Random random = new Random(31);
        int texts = 0;
        int changed = 0;
        for (int run = 0; run < 500; run++) {
            String[] rows = someSheet(random);
            study(rows);
            PictureCodingHouse house = new PictureCodingHouse();
            Checks.drawSheet(house, 0, rows);
            Checks.same("parts", boxes.size(), house.parts(0, 0));
            boolean small = boxes.stream().allMatch(b -> b[2] <= 8 && b[3] <= 8);
            Checks.same("symbols", small ? symbols.size() : -1, house.parts(0, 1));
            int naming = random.nextInt(2);
            int tries = random.nextInt(9);
            int answer = house.text(0, naming, tries, 7);
            if (!small || symbols.size() > 16 || boxes.size() > 40) {
                Checks.same("no text", -1, answer);
                continue;
            }
            texts++;
            int[] due = reference(rows, naming, tries);
            changed += Arrays.equals(due, reference(rows, naming, 0)) ? 0 : 1;
            Checks.same("text", due.length, answer);
            Checks.same("text " + run, due, Checks.file(house, 7));
            Checks.same("untext", boxes.size(), house.untext(7, 3));
            Checks.noFault("untext", house);
            Checks.sameSheet("untext", house, 3, rows);
        }
        Checks.holds("texts " + texts + ", changed by tries " + changed, texts > 100 && changed > 20);
    }

    // ---- texts that have more

    private static final int[] HEAD = {84, 1, 8, 6, 2, 2, 1, 192, 1, 3, 128, 0, 128};

    /** A text by NAMING 1 with a symbol of two dots and one of 1 times 3 samples, the middle one light. */
    static int[] text(String bits) {
        return Checks.joined(HEAD, Checks.packed(bits));
    }

    static String ways(int log, int turned, int corner, int operator) {
        return Checks.bits(log, 2) + turned + Checks.bits(corner, 2) + Checks.bits(operator, 3);
    }

    private static void sameRead(String what, int count, String bits, String... rows) {
        PictureCodingHouse house = new PictureCodingHouse();
        Checks.load(house, 0, text(bits));
        Checks.same(what, count, house.untext(0, 2));
        Checks.noFault(what, house);
        Checks.sameSheet(what, house, 2, rows);
    }

    private static void readMore() {
        String light = "........";
        // place 1 is the second symbol
        String second = number(1) + "0";
        String first = number(0) + "0";
        sameRead("left upper", 1, number(1) + ways(0, 0, 0, 0) + number(17) + signed(2) + second + "0",
                light, "..#.....", light, "..#.....", light, light);
        sameRead("left lower", 1, number(1) + ways(0, 0, 1, 0) + number(16 + 3) + signed(2) + second + "0",
                light, "..#.....", light, "..#.....", light, light);
        sameRead("right upper", 1, number(1) + ways(0, 0, 2, 0) + number(16 + 3) + signed(2) + first + "0",
                light, light, light, ".##.....", light, light);
        sameRead("right lower", 1, number(1) + ways(0, 0, 3, 0) + number(16 + 3) + signed(2) + second + "0",
                light, "..#.....", light, "..#.....", light, light);
        sameRead("turned", 1, number(1) + ways(0, 1, 0, 0) + number(16 + 3) + signed(2) + second + "0",
                light, light, "...#....", light, "...#....", light);
        sameRead("turned, a further one behind three rows", 2,
                number(2) + ways(0, 1, 0, 0) + number(16 + 3) + signed(0) + second + "1" + signed(-1) + number(1) + "0"
                        + "0", "...#....", light, "...##...", light, light, light);
        sameRead("by strips of 4", 2,
                number(2) + ways(2, 0, 0, 0) + number(16 + 0) + signed(2) + "11" + first + "0" + number(0)
                        + signed(1) + "01" + first + "0",
                light, light, light, "..##....", light, "...##...");
        sameRead("by a strip below 0", 1, number(1) + ways(3, 0, 0, 0) + number(15) + signed(-1) + "110" + second + "0",
                light, light, light, light, light, light);
        sameRead("partly on the sheet", 1, number(1) + ways(3, 0, 0, 0) + number(15) + signed(-1) + "111" + first + "0",
                light, light, light, light, light, light);
        sameRead("partly on the sheet", 1, number(1) + ways(0, 0, 0, 0) + number(15) + signed(0) + second + "0",
                light, "#.......", light, light, light, light);
        // two of the first symbol, one laid upon the other, a column apart
        String twice = number(16) + signed(1) + first + "1" + signed(-1) + first + "0";
        sameRead("or", 2, number(2) + ways(0, 0, 0, 0) + twice, ".###....", light, light, light, light, light);
        sameRead("and", 2, number(2) + ways(0, 0, 0, 1) + twice, light, light, light, light, light, light);
        sameRead("differ", 2, number(2) + ways(0, 0, 0, 2) + twice, ".#.#....", light, light, light, light, light);
        sameRead("same", 1, number(1) + ways(0, 0, 0, 3) + number(17) + signed(2) + second + "0",
                light, light, "..#.....", light, light, light);
        sameRead("that one", 2, number(2) + ways(0, 0, 0, 4) + number(16) + signed(1) + second + "1" + signed(-1)
                + number(1) + "0" + "0", ".##.....", light, ".#......", light, light, light);
        // the second symbol is #, ., #: alike 1, differing 1, alike 1
        sameRead("differing", 1, number(1) + ways(0, 0, 0, 0) + number(16) + signed(0) + number(1) + "1" + number(1)
                + number(1) + number(1) + "0", "#.......", "#.......", "#.......", light, light, light);
        sameRead("differing from the first sample on", 1, number(1) + ways(0, 0, 0, 0) + number(16) + signed(0)
                + number(1) + "1" + number(0) + number(3) + "0", light, "#.......", light, light, light, light);
        sameRead("alike after all", 1, number(1) + ways(0, 0, 0, 0) + number(16) + signed(0)
                + number(1) + "1" + number(3) + "0", "#.......", light, "#.......", light, light, light);
        codesRead();
        greatSymbol();
    }

    /** A symbol of 8 times 8 samples, all dark, that differs in its first one, and one that differs in its last one. */
    private static void greatSymbol() {
        PictureCodingHouse house = new PictureCodingHouse();
        int[] head = {84, 1, 8, 8, 1, 8, 8, 255, 255, 255, 255, 255, 255, 255, 255};
        String one = number(1) + ways(0, 0, 0, 4) + number(16) + signed(0) + number(0) + "1";
        Checks.load(house, 0, Checks.joined(head, Checks.packed(one + number(0) + number(1) + number(63) + "0")));
        Checks.same("differing in the first", 1, house.untext(0, 0));
        Checks.same("differing in the first", 63, house.size(1, 0, 2));
        Checks.holds("differing in the first", !house.isDark(0, 0, 0));
        Checks.load(house, 0, Checks.joined(head, Checks.packed(one + number(63) + number(1) + "0")));
        Checks.same("differing in the last", 1, house.untext(0, 0));
        Checks.same("differing in the last", 63, house.size(1, 0, 2));
        Checks.holds("differing in the last", !house.isDark(0, 7, 7));
    }

    private static void codesRead() {
        PictureCodingHouse house = new PictureCodingHouse();
        int[] head = Checks.altered(HEAD, 1, 0);
        // the first symbol has no code, the second one of one bit
        Checks.load(house, 0, Checks.joined(head, Checks.packed(number(1) + ways(0, 0, 0, 0) + "00000001"
                + number(16) + signed(0) + "0" + "0" + "0")));
        Checks.same("one code", 1, house.untext(0, 0));
        Checks.sameSheet("one code", house, 0, "#.......", "........", "#.......", "........", "........", "........");
        Checks.load(house, 0, Checks.joined(head, Checks.packed(number(0) + ways(0, 0, 0, 0) + "00000000")));
        Checks.same("no codes and no instances", 0, house.untext(0, 0));
        Checks.load(house, 0, Checks.joined(head, Checks.packed(number(0) + ways(0, 0, 0, 0) + "00010001")));
        Checks.same("codes and no instances", 0, house.untext(0, 0));
    }

    private static void broken(String what, int number, int place, int[] file) {
        PictureCodingHouse house = new PictureCodingHouse();
        house.sheet(0, 1, 1);
        Checks.load(house, 0, file);
        Checks.sameFault(what, house, house.untext(0, 0), number, place);
        Checks.same(what + " changes nothing", 1, house.size(1, 0, 0));
        Checks.same(what + " changes nothing", 0, house.size(1, 0, 2));
    }

    /** The fault is met when the first bits were read; behind them come others. */
    private static void met(String what, int number, String read, String behind) {
        broken(what, number, HEAD.length + read.length() / 8, text(read + behind));
    }

    private static void faults() {
        int[] head = HEAD;
        broken("empty", 1, 0, new int[0]);
        for (int i = 1; i < head.length; i++) {
            broken("head cut", 1, i, Checks.first(head, i));
        }
        int[][] wrong = {{0, 85}, {1, 2}, {2, 0}, {2, 25}, {3, 0}, {3, 25}, {4, 17}, {5, 0}, {5, 9}, {6, 0}, {6, 9},
            {7, 193}, {7, 32}, {10, 64}, {12, 1}};
        for (int[] change : wrong) {
            broken("head " + change[0], 1, change[0], Checks.altered(head, change[0], change[1]));
        }
        String one = number(1) + ways(0, 0, 0, 0);
        String begun = one + number(16) + signed(0);
        broken("no bits", 11, head.length, head);
        broken("bits end", 11, head.length + 1, text("00001001"));
        met("41 instances", 12, number(41), "1".repeat(20));
        met("operator 5", 13, number(1) + ways(0, 0, 0, 5), "1".repeat(20));
        met("operator 7", 13, number(1) + ways(3, 1, 3, 7), "1".repeat(20));
        met("one more", 12, begun + number(0) + "0" + "1", "1".repeat(20));
        met("no such symbol", 15, begun + number(2), "1".repeat(20));
        met("x too great", 16, one + number(16) + signed(32) + number(0), "1".repeat(20));
        met("x too small", 16, one + number(16) + signed(-9) + number(0), "1".repeat(20));
        met("y too great", 16, one + number(48) + signed(0) + number(1), "1".repeat(20));
        met("y too small", 16, one + number(7) + signed(0) + number(1), "1".repeat(20));
        met("a run of 0", 17, begun + number(1) + "1" + number(1) + number(0), "1".repeat(20));
        met("a run of 0 behind one", 17, begun + number(1) + "1" + number(0) + number(0), "1".repeat(20));
        met("a run too long", 17, begun + number(1) + "1" + number(4), "1".repeat(20));
        met("a run too long", 17, begun + number(1) + "1" + number(1) + number(3), "1".repeat(20));
        met("13 bits 0", 18, one + "0".repeat(13), "1".repeat(40));
        met("13 bits 0 at first", 18, "0".repeat(13), "1".repeat(40));
        met("13 bits 0 in a run", 18, begun + number(1) + "1" + "0".repeat(13), "1".repeat(40));
        String whole = begun + number(1) + "0" + "0";
        String filled = whole + "0".repeat(7 - whole.length() % 8);
        met("a bit 1 that fills", 19, filled + "1", "");
        met("the first bit that fills", 19, whole + "1", "");
        broken("a byte behind", 19, head.length + (whole.length() + 7) / 8,
                Checks.joined(text(whole), new int[] {0}));
        PictureCodingHouse house = new PictureCodingHouse();
        Checks.load(house, 0, text(one + number(16) + signed(31) + number(0) + "0" + "0"));
        Checks.same("x 31", 1, house.untext(0, 0));
        Checks.load(house, 0, text(one + number(8) + signed(-8) + number(0) + "0" + "0"));
        Checks.same("x and y -8", 1, house.untext(0, 0));
        Checks.load(house, 0, text(one + "0".repeat(12) + "1" + "0".repeat(12) + signed(0) + number(0) + "0" + "0"));
        Checks.holds("12 bits 0 may be", house.untext(0, 0) < 0 && house.fault(0) == 16);
        faultsOfCodes();
    }

    private static void coded(String what, int number, String read, String behind) {
        broken(what, number, HEAD.length + read.length() / 8,
                Checks.joined(Checks.altered(HEAD, 1, 0), Checks.packed(read + behind)));
    }

    private static void faultsOfCodes() {
        String one = number(1) + ways(0, 0, 0, 0);
        coded("no code", 14, one + "00000000", "1".repeat(30));
        coded("one of two bits", 14, one + "00000010", "1".repeat(30));
        coded("not full", 14, one + "00010010", "1".repeat(30));
        coded("not full, without instances", 14, number(0) + ways(0, 0, 0, 0) + "00100000", "1".repeat(30));
        coded("no such code", 15, one + "00010000" + number(16) + signed(0) + "1", "1".repeat(30));
        int[] three = Checks.joined(Checks.altered(Checks.altered(HEAD, 1, 0), 4, 3), new int[] {1, 1, 128});
        String over = one + "000100010001";
        broken("over-full", 14, three.length + over.length() / 8,
                Checks.joined(three, Checks.packed(over + "1".repeat(30))));
    }

    private static void anyBytes() {
        Random random = new Random(33);
        for (int run = 0; run < 600; run++) {
            PictureCodingHouse house = new PictureCodingHouse();
            Checks.drawSheet(house, 0, "##..#", "...##", "#....", "##.#.");
            int n = house.text(0, random.nextInt(2), random.nextInt(3), 0);
            for (int i = random.nextInt(3); i >= 0; i--) {
                house.alter(0, random.nextInt(n), random.nextInt(256));
            }
            int answer = house.untext(0, 1);
            if (house.fault(0) == 0) {
                Checks.holds("instances", answer >= 0 && answer <= 40);
            } else {
                Checks.same("fault", -1 - house.fault(1), answer);
                Checks.same("nothing changed", -1, house.size(1, 1, 0));
            }
        }
    }
}
