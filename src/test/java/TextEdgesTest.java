import java.util.Arrays;
import java.util.Random;

/** Promises 11 (parts, text) and 12 (untext), and 7 TEXTS: boxes, symbols and numbers at their bounds, each FAULT. */
public final class TextEdgesTest {
    private static PictureCodingHouse house = new PictureCodingHouse();

    public static void main(String[] args) {
        partsThatTouch();
        boxesOfEight();
        manySymbols();
        manyParts();
        noText();
        triesOneByOne();
        cutAnywhere();
        heads();
        bitsBeyondTheWidth();
        manyInstances();
        operators();
        fullCodes();
        longestCodes();
        namesThatThereAreNot();
        placesOfBoxes();
        corners();
        strips();
        runs();
        longNumbers();
        behindTheEnd();
        firstMet();
        Checks.end();
    }

    private static PictureCodingHouse next() {
        if (house.told(0) > 280) {
            house = new PictureCodingHouse();
        }
        if (house.size(1, 3, 0) < 0) {
            house.sheet(3, 5, 4);
            house.ink(3, 1, 1, 3, true);
        }
        return house;
    }

    // ---- parts and texts

    /** "dark samples that stand side by side, or one above the other": not those that touch at a corner. */
    private static void partsThatTouch() {
        sameParts(1, 1, "##");
        sameParts(1, 1, "#", "#");
        sameParts(2, 1, "#.", ".#");
        sameParts(2, 1, ".#", "#.");
        sameParts(1, 1, "#.", "##");
        sameParts(1, 1, "###", "#.#", "#.#");
        sameParts(1, 1, "#.#", "#.#", "###");
        sameParts(2, 1, "#.#");
        sameParts(2, 2, "#.##");
        sameParts(2, 2, "#.#", "..#");
        sameParts(2, 2, "##.##", "#....");
        sameParts(3, 1, "##.##.##");
        sameParts(2, 2, "###", "#..", "#.#");
        sameParts(0, 0, "...");
        sameParts(1, 1, "#");
        // a row's last sample and the next one's first are not side by side
        sameParts(2, 1, "..#", "#..");
    }

    private static void sameParts(int parts, int symbols, String... rows) {
        PictureCodingHouse h = next();
        Checks.drawSheet(h, 0, rows);
        String what = String.join("/", rows);
        Checks.same("parts of " + what, parts, h.parts(0, 0));
        Checks.same("symbols of " + what, symbols, h.parts(0, 1));
        int n = h.text(0, 1, 0, 0);
        Checks.holds("text of " + what, n > 0);
        Checks.read("untext of " + what, h, parts, () -> h.untext(0, 1));
        Checks.sameSheet("untext of " + what, h, 1, rows);
    }

    /** "A sheet has no text, if a box is wider or higher than 8": 8 may be, 9 not; also of a part that is not whole. */
    private static void boxesOfEight() {
        for (int side = 7; side <= 10; side++) {
            for (int turn = 0; turn < 2; turn++) {
                PictureCodingHouse h = next();
                h.sheet(0, 12, 12);
                for (int i = 0; i < side; i++) {
                    h.ink(0, turn == 0 ? i : 3, turn == 0 ? 3 : i, 1, true);
                }
                Checks.same("parts", 1, h.parts(0, 0));
                Checks.same("symbols of a side " + side, side <= 8 ? 1 : -1, h.parts(0, 1));
                Checks.load(h, 0, new int[] {5});
                int n = h.text(0, turn, 0, 0);
                Checks.holds("text of a side " + side + ": " + n, side <= 8 ? n > 7 : n == -1);
                Checks.same("the file", side <= 8 ? n : 1, h.size(2, 0, 0));
            }
        }
        PictureCodingHouse h = next();
        // a bent part of 9 by 2, and one small one: NONE for all
        Checks.drawSheet(h, 0, "########.", ".......##", ".........", "#........");
        Checks.same("parts", 2, h.parts(0, 0));
        Checks.same("symbols", -1, h.parts(0, 1));
        Checks.drawSheet(h, 0, "#########", ".........", "#########");
        Checks.same("both too wide", -1, h.parts(0, 1));
    }

    private static final String[] SHAPES = {"#", "##", "###", "####", "#/#", "#/#/#", "#/#/#/#", "##/##", "##/#.", "##/.#",
        "#./##", ".#/##", "###/#..", "###/..#", "###/.#.", "###/#.#", "##/##/#."};

    private static void drawShapes(PictureCodingHouse h, int count) {
        h.sheet(0, 24, 24);
        for (int i = 0; i < count; i++) {
            String[] rows = SHAPES[i].split("/");
            for (int y = 0; y < rows.length; y++) {
                for (int x = 0; x < rows[y].length(); x++) {
                    h.ink(0, i % 4 * 5 + x, i / 4 * 5 + y > 23 ? 23 : i / 4 * 5 + y, 1, rows[y].charAt(x) == '#');
                }
            }
        }
    }

    /** "or there are more than 16 symbols": counted, but without a text. */
    private static void manySymbols() {
        PictureCodingHouse h = next();
        for (int count = 15; count <= 17; count++) {
            drawShapes(h, count);
            Checks.same("symbols", count, h.parts(0, 1));
            Checks.load(h, 0, new int[] {5});
            for (int naming = 0; naming < 2; naming++) {
                int n = h.text(0, naming, 0, 0);
                Checks.holds(count + " symbols: " + n, n > 0 == count <= 16);
                Checks.same("the file", n < 0 ? 1 : n, h.size(2, 0, 0));
            }
            if (count <= 16) {
                Checks.same("told", count, h.byteAt(0, 4));
                Checks.read("untext", h, count, () -> h.untext(0, 1));
                Checks.same("untext", 0, h.apart(0, 1));
            }
        }
    }

    /** "or 40 parts": 40 may be, 41 not. */
    private static void manyParts() {
        PictureCodingHouse h = next();
        for (int count = 39; count <= 42; count++) {
            h.sheet(0, 24, 24);
            for (int i = 0; i < count; i++) {
                h.ink(0, i % 12 * 2, i / 12 * 2, 1, true);
            }
            Checks.same("parts", count, h.parts(0, 0));
            Checks.same("symbols", 1, h.parts(0, 1));
            for (int naming = 0; naming < 2; naming++) {
                Checks.load(h, 0, new int[] {5});
                int n = h.text(0, naming, 2, 0);
                Checks.holds(count + " parts: " + n, n > 0 == count <= 40);
                Checks.same("the file", n < 0 ? 1 : n, h.size(2, 0, 0));
                if (n > 0) {
                    int due = count;
                    Checks.read("untext", h, due, () -> h.untext(0, 1));
                    Checks.same("untext", 0, h.apart(0, 1));
                }
            }
        }
    }

    private static void noText() {
        PictureCodingHouse h = next();
        h.sheet(0, 24, 24);
        Checks.load(h, 0, new int[] {1, 2, 3});
        int work = h.told(0);
        Checks.same("of a light sheet", 7, h.text(0, 1, 8, 0));
        Checks.same("of a light sheet", new int[] {84, 1, 24, 24, 0, 128, 0}, Checks.file(h, 0));
        h.ink(0, 0, 0, 9, true);
        Checks.same("none", -1, h.text(0, 1, 8, 0));
        Checks.same("the file stays", 7, h.size(2, 0, 0));
        Checks.same("both are WORK", work + 2, h.told(0));
    }

    /** Each number of TRIES: "two neighbours of the same y change places if there are fewer bits in all then". */
    private static void triesOneByOne() {
        Random random = new Random(71);
        int changing = 0;
        for (int run = 0; run < 400; run++) {
            String[] rows = TextsTest.someSheet(random);
            TextsTest.study(rows);
            boolean isSmall = TextsTest.boxes.stream().allMatch(b -> b[2] <= 8 && b[3] <= 8);
            if (!isSmall || TextsTest.boxes.size() > 40 || TextsTest.symbols.size() > 16) {
                continue;
            }
            PictureCodingHouse h = next();
            Checks.drawSheet(h, 0, rows);
            int naming = run % 2;
            int[] before = null;
            for (int tries = 0; tries <= 8; tries++) {
                int[] due = TextsTest.reference(rows, naming, tries);
                Checks.same("tries " + tries, due.length, h.text(0, naming, tries, 0));
                Checks.same("tries " + tries, due, Checks.file(h, 0));
                changing += before != null && !Arrays.equals(before, due) && tries > 1 ? 1 : 0;
                before = due;
            }
            int parts = TextsTest.boxes.size();
            Checks.read("untext", h, parts, () -> h.untext(0, 1));
            Checks.same("untext", 0, h.apart(0, 1));
        }
        Checks.holds("a second try and later ones change something: " + changing, changing >= 5);
    }

    // ---- reading

    /** A symbol of 3 by 2 samples (#.# and .#.) and one of 1 by 1, on a sheet of 10 by 8. */
    private static final int[] HEAD = {84, 1, 10, 8, 2, 3, 2, 0b10100000, 0b01000000, 1, 1, 128};

    private static int[] text(String bits) {
        return Checks.joined(HEAD, Checks.packed(bits));
    }

    private static void broken(String what, int number, int place, int[] file) {
        PictureCodingHouse h = next();
        Checks.load(h, 0, file);
        Checks.broken(what, h, number, place, () -> h.untext(0, 3));
    }

    /** The fault is met when the first bits were read; others are behind them. */
    private static void met(String what, int number, String read) {
        broken(what, number, HEAD.length + read.length() / 8, text(read + "1".repeat(24)));
        broken(what + ", with zeros behind", number, HEAD.length + read.length() / 8, text(read + "0".repeat(40)));
    }

    /** Likewise by CODES. */
    private static void coded(String what, int number, int[] head, String read) {
        broken(what, number, head.length + read.length() / 8, Checks.joined(head, Checks.packed(read + "1".repeat(24))));
    }

    private static void right(String what, int count, int[] file) {
        PictureCodingHouse h = next();
        Checks.load(h, 0, file);
        Checks.read(what, h, count, () -> h.untext(0, 2));
    }

    private static String number(int n) {
        return TextsTest.number(n);
    }

    private static String signed(int v) {
        return TextsTest.signed(v);
    }

    private static String ways(int log, int turned, int corner, int operator) {
        return TextsTest.ways(log, turned, corner, operator);
    }

    private static final String PLAIN = ways(0, 0, 0, 0);

    /** One instance of the symbol in that place, at (x, y). */
    private static String one(int x, int y, int place) {
        return number(y + 16) + signed(x) + number(place) + "0";
    }

    private static void cutAnywhere() {
        String bits = number(3) + ways(2, 0, 3, 4) + number(17) + signed(5) + "10" + number(1) + "0" + "1" + signed(1) + "01"
                + number(1) + "1" + number(0) + number(2) + number(4) + "0" + number(0) + signed(-1) + "11" + number(0) + "0"
                + "0";
        int[] whole = text(bits);
        right("whole", 3, whole);
        for (int n = 0; n < whole.length; n++) {
            broken("cut to " + n, n < HEAD.length ? 1 : 11, n, Checks.first(whole, n));
        }
        Random random = new Random(4);
        for (int naming = 0; naming < 2; naming++) {
            PictureCodingHouse h = next();
            drawShapes(h, 16);
            h.text(0, naming, random.nextInt(9), 1);
            int[] file = Checks.file(h, 1);
            int head = 5;
            for (int s = 0; s < 16; s++) {
                head += 2 + file[head + 1];
            }
            for (int n = 0; n < file.length; n++) {
                broken("cut to " + n, n < head ? 1 : 11, n, Checks.first(file, n));
            }
        }
    }

    /** "FAULT 1, at the byte that can't be: 84; 0 or 1; sizes 1 .. 24; at most 16 symbols; their sizes 1 .. 8". */
    private static void heads() {
        int[] whole = text(number(1) + PLAIN + one(0, 0, 0) + "0");
        int[][] wrong = {{0, 83, 85, 0, 255}, {1, 2, 3, 255}, {2, 0, 25, 255}, {3, 0, 25, 255}, {4, 17, 18, 255},
            {5, 0, 9, 255}, {6, 0, 9, 255}, {9, 0, 9}, {10, 0, 9}};
        for (int[] one : wrong) {
            for (int i = 1; i < one.length; i++) {
                broken("byte " + one[0] + " is " + one[i], 1, one[0], Checks.altered(whole, one[0], one[i]));
            }
        }
        for (int side : new int[] {1, 24}) {
            right("width " + side, 1, Checks.altered(whole, 2, side));
            Checks.same("width " + side, side, house.size(1, 2, 0));
            right("height " + side, 1, Checks.altered(whole, 3, side));
            Checks.same("height " + side, side, house.size(1, 2, 1));
        }
        for (int symbols : new int[] {0, 1, 15, 16}) {
            for (int naming = 0; naming < 2; naming++) {
                int[] head = {84, naming, 3, 3, symbols};
                for (int s = 0; s < symbols; s++) {
                    head = Checks.joined(head, new int[] {1, 1, s % 2 * 128});
                }
                String codes = naming == 1 ? "" : "0".repeat(4 * symbols);
                right(symbols + " symbols", 0, Checks.joined(head, Checks.packed(number(0) + PLAIN + codes)));
            }
        }
        for (int side = 1; side <= 8; side++) {
            int[] wide = {84, 1, 24, 24, 1, side, 1, 0xFF00 >> side & 255};
            right("a symbol's width " + side, 1, Checks.joined(wide, Checks.packed(number(1) + PLAIN + one(0, 0, 0) + "0")));
            Checks.same("a symbol's width " + side, side, house.size(1, 2, 2));
            int[] high = Checks.joined(new int[] {84, 1, 24, 24, 1, 1, side}, repeated(128, side));
            right("a symbol's height " + side, 1, Checks.joined(high, Checks.packed(number(1) + PLAIN + one(0, 0, 0) + "0")));
            Checks.same("a symbol's height " + side, side, house.size(1, 2, 2));
        }
        broken("the first of two that can't be", 1, 2, Checks.altered(Checks.altered(whole, 2, 0), 4, 99));
    }

    private static int[] repeated(int v, int n) {
        int[] bytes = new int[n];
        Arrays.fill(bytes, v);
        return bytes;
    }

    /** "bits of their rows beyond their width 0". */
    private static void bitsBeyondTheWidth() {
        for (int width = 1; width <= 8; width++) {
            for (int bit = 0; bit < 8; bit++) {
                for (int row = 0; row < 2; row++) {
                    int[] head = {84, 1, 9, 9, 1, width, 2, 0, 0};
                    head[7 + row] = 128 >> bit;
                    int[] file = Checks.joined(head, Checks.packed(number(1) + PLAIN + one(0, 0, 0) + "0"));
                    if (bit < width) {
                        right("bit " + bit + " of " + width, 1, file);
                        Checks.holds("bit " + bit + " of " + width, house.isDark(2, bit, row));
                    } else {
                        broken("bit " + bit + " of " + width, 1, 7 + row, file);
                    }
                }
            }
        }
    }

    /** "12 more than 40 instances, or one more than was told at first". */
    private static void manyInstances() {
        for (int told : new int[] {41, 42, 63, 64, 100, 8190}) {
            met("told " + told, 12, number(told));
        }
        for (int count : new int[] {0, 1, 2, 39, 40}) {
            StringBuilder bits = new StringBuilder(number(count) + PLAIN);
            for (int i = 0; i < count; i++) {
                bits.append(i == 0 ? one(0, 0, 1) : i == 1 ? "1" + signed(0) + number(0) + "0" : "1" + signed(-1) + number(0) + "0");
            }
            right("instances " + count, count, text(bits + (count > 0 ? "0" : "")));
            if (count > 0) {
                met("one more than " + count, 12, bits + "1");
            }
        }
        for (int count : new int[] {1, 2, 32}) {
            StringBuilder strips = new StringBuilder(number(count) + PLAIN);
            for (int i = 0; i < count; i++) {
                strips.append(number(i == 0 ? 16 : 0)).append(signed(0)).append(number(0)).append("00");
            }
            right("each in a strip of its own " + count, count, text(strips.toString()));
        }
        met("one more behind a second strip", 12, number(2) + PLAIN + one(0, 0, 0) + "0" + number(0) + signed(0) + number(0)
                + "0" + "1");
    }

    private static void operators() {
        for (int operator = 0; operator < 8; operator++) {
            String read = number(1) + ways(0, 0, 0, operator);
            if (operator <= 4) {
                right("operator " + operator, 1, text(read + one(0, 0, 0) + "0"));
            } else {
                met("operator " + operator, 13, read);
                met("operator with all else", 13, number(0) + ways(3, 1, 3, operator));
            }
        }
    }

    private static int[] headOf(int symbols) {
        int[] head = {84, 0, 10, 8, symbols};
        for (int s = 0; s < symbols; s++) {
            head = Checks.joined(head, new int[] {1, 1, 128});
        }
        return head;
    }

    private static String fours(int... lengths) {
        StringBuilder text = new StringBuilder();
        for (int length : lengths) {
            text.append(Checks.bits(length, 4));
        }
        return text.toString();
    }

    /** "14 lengths whose CODES are not full, but for one CODE of one bit, and none at all if there are no instances". */
    private static void fullCodes() {
        String one = number(1) + PLAIN;
        String none = number(0) + PLAIN;
        String laid = number(16) + signed(0);
        right("one of one bit", 1, Checks.joined(headOf(3), Checks.packed(one + fours(0, 1, 0) + laid + "0" + "0" + "0")));
        right("two of one bit", 1, Checks.joined(headOf(3), Checks.packed(one + fours(1, 0, 1) + laid + "1" + "0" + "0")));
        right("1, 2, 2", 1, Checks.joined(headOf(3), Checks.packed(one + fours(2, 1, 2) + laid + "11" + "0" + "0")));
        right("none, without instances", 0, Checks.joined(headOf(3), Checks.packed(none + fours(0, 0, 0))));
        right("full, without instances", 0, Checks.joined(headOf(3), Checks.packed(none + fours(2, 1, 2))));
        right("one of one bit, without instances", 0, Checks.joined(headOf(3), Checks.packed(none + fours(0, 0, 1))));
        int[][] wrong = {{0, 2, 0}, {0, 15, 0}, {1, 2, 0}, {2, 2, 0}, {2, 2, 2}, {1, 1, 1}, {1, 1, 15}, {1, 2, 3}, {3, 3, 1}};
        for (int[] lengths : wrong) {
            coded("not full " + Arrays.toString(lengths), 14, headOf(3), one + fours(lengths));
            coded("not full, without instances", 14, headOf(3), none + fours(lengths));
        }
        coded("none, with an instance", 14, headOf(3), one + fours(0, 0, 0));
        coded("none, as there is no symbol", 14, headOf(0), one);
        right("no symbol, and no instances", 0, Checks.joined(headOf(0), Checks.packed(none)));
    }

    private static void longestCodes() {
        int[] lengths = {15, 1, 2, 3, 4, 5, 6, 7, 8, 9, 10, 11, 12, 13, 14, 15};
        String[] codes = Checks.codes(lengths);
        int[] head = {84, 0, 24, 8, 16};
        for (int s = 0; s < 16; s++) {
            head = Checks.joined(head, new int[] {8, 1, s + 1});
        }
        StringBuilder bits = new StringBuilder(number(16) + PLAIN + fours(lengths));
        for (int s = 0; s < 16; s++) {
            bits.append(s == 0 ? number(16) : number(0)).append(signed(0)).append(codes[s]).append("0").append("0");
        }
        right("codes of 15 bits", 16, Checks.joined(head, Checks.packed(bits.toString())));
        for (int s = 0; s < 8; s++) {
            for (int x = 0; x < 8; x++) {
                Checks.holds("symbol " + s, house.isDark(2, x, s) == ((s + 1 >> 7 - x & 1) == 1));
            }
        }
        coded("one of 15 bits is not there", 14, head, number(16) + PLAIN + fours(Checks.altered(lengths, 0, 0)));
        coded("one of 15 bits too much", 14, head, number(16) + PLAIN + fours(Checks.altered(lengths, 2, 1)));
    }

    /** "15 a symbol that there is not, or no CODE". */
    private static void namesThatThereAreNot() {
        String begun = number(1) + PLAIN + number(16) + signed(0);
        right("the last symbol", 1, text(begun + number(1) + "0" + "0"));
        met("behind the last symbol", 15, begun + number(2));
        met("far behind", 15, begun + number(15));
        met("far behind", 15, begun + number(8190));
        int[] many = Checks.altered(headOf(16), 1, 1);
        right("the 16th symbol", 1, Checks.joined(many, Checks.packed(begun + number(15) + "0" + "0")));
        coded("behind the 16th", 15, many, begun + number(16));
        int[] none = {84, 1, 10, 8, 0};
        coded("the first of none", 15, none, begun + number(0));
        String single = number(1) + PLAIN + fours(0, 1, 0) + number(16) + signed(0);
        right("its code", 1, Checks.joined(headOf(3), Checks.packed(single + "0" + "0" + "0")));
        coded("no code", 15, headOf(3), single + "1");
        // the symbol goes to the front: the same place is another one then
        right("to the front", 2, text(number(2) + PLAIN + one(0, 0, 1) + "1" + signed(0) + number(1) + "0" + "0"));
        Checks.sameSheet("to the front", house, 2, "##.#......", "..#.......", "..........", "..........", "..........",
                "..........", "..........", "..........");
    }

    /** "16 an x or y of the box that is not -8 .. 31 (looked at behind the NAME)". */
    private static void placesOfBoxes() {
        String begun = number(1) + PLAIN;
        for (int x : new int[] {-8, 31}) {
            for (int y : new int[] {-8, 31}) {
                right("x " + x + " y " + y, 1, text(begun + one(x, y, 0) + "0"));
            }
        }
        for (int wrong : new int[] {-9, 32, -16, 100}) {
            met("x " + wrong, 16, begun + number(16) + signed(wrong) + number(0));
            met("y " + wrong, 16, begun + number(wrong + 16) + signed(0) + number(0));
        }
        met("both", 16, begun + number(48) + signed(32) + number(0));
        met("the name comes first", 15, begun + number(48) + signed(32) + number(2));
        // of the right lower corner: the box of 3 by 2 begins two to the left and one above
        String corner = number(1) + ways(0, 0, 3, 0);
        right("the box at 31", 1, text(corner + number(16 + 32) + signed(33) + number(0) + "00"));
        met("the box at 32", 16, corner + number(16 + 32) + signed(34) + number(0));
        met("the box at 32", 16, corner + number(16 + 33) + signed(33) + number(0));
        right("the box at -8", 1, text(corner + number(16 - 7) + signed(-6) + number(0) + "00"));
        met("the box at -9", 16, corner + number(16 - 7) + signed(-7) + number(0));
        met("the box at -9", 16, corner + number(16 - 8) + signed(-6) + number(0));
        // a further one of the strip
        String two = number(2) + PLAIN + one(0, 0, 1) + "1";
        right("further, at 31", 2, text(two + signed(30) + number(0) + "0" + "0"));
        met("further, at 32", 16, two + signed(31) + number(0));
        right("further, at -8", 2, text(two + signed(-9) + number(0) + "0" + "0"));
        met("further, at -9", 16, two + signed(-10) + number(0));
    }

    /** Each CORNER, TURNED or not, of a symbol of 3 by 2: its box is at (4, 3). */
    private static void corners() {
        for (int corner = 0; corner < 4; corner++) {
            for (int turned = 0; turned < 2; turned++) {
                for (int log = 0; log < 4; log++) {
                    int x = 4 + (corner >= 2 ? 2 : 0);
                    int y = 3 + (corner % 2 == 1 ? 1 : 0);
                    int s = turned == 1 ? y : x;
                    int t = turned == 1 ? x : y;
                    String bits = number(1) + ways(log, turned, corner, 0) + number((t >> log) + 16) + signed(s)
                            + Checks.bits(t & (1 << log) - 1, log) + number(0) + "0" + "0";
                    right("corner " + corner + " turned " + turned, 1, text(bits));
                    Checks.sameSheet("corner " + corner + " turned " + turned + " log " + log, house, 2, "..........",
                            "..........", "..........", "....#.#...", ".....#....", "..........", "..........", "..........");
                }
            }
        }
        // behind a symbol of 3 by 2 a further one: 3 columns, or 2 rows, farther
        right("3 columns farther", 2, text(number(2) + PLAIN + one(0, 0, 0) + "1" + signed(0) + number(1) + "0" + "0"));
        Checks.holds("3 columns farther", house.isDark(2, 3, 0) && house.size(1, 2, 2) == 4);
        right("2 rows farther", 2, text(number(2) + ways(0, 1, 0, 0) + one(0, 0, 0) + "1" + signed(0) + number(1) + "0" + "0"));
        Checks.holds("2 rows farther", house.isDark(2, 0, 2) && house.size(1, 2, 2) == 4);
    }

    /** "T by 2 to the LOG, rounded down": also below 0; strips one above the one before at least. */
    private static void strips() {
        right("strip -1 of 8, its last row", 1, text(number(1) + ways(3, 0, 0, 0) + number(15) + signed(0) + "111" + number(0)
                + "0" + "0"));
        Checks.sameSheet("at row -1", house, 2, ".#........", "..........", "..........", "..........", "..........",
                "..........", "..........", "..........");
        right("strip -1, its first row", 1, text(number(1) + ways(3, 0, 0, 0) + number(15) + signed(0) + "000" + number(0)
                + "0" + "0"));
        met("strip -2, its last row", 16, number(1) + ways(3, 0, 0, 0) + number(14) + signed(0) + "111" + number(0));
        right("strip 3 of 8, its last row", 1, text(number(1) + ways(3, 0, 0, 0) + number(19) + signed(0) + "111" + number(0)
                + "0" + "0"));
        met("strip 4 of 8", 16, number(1) + ways(3, 0, 0, 0) + number(20) + signed(0) + "000" + number(0));
        // the first x of a strip is told less that of the strip before
        right("the next strip, and its x", 2, text(number(2) + PLAIN + one(5, 1, 1) + "0" + number(0) + signed(-3) + number(0)
                + "0" + "0"));
        Checks.sameSheet("the next strip, and its x", house, 2, "..........", ".....#....", "..#.......", "..........",
                "..........", "..........", "..........", "..........");
        // less that of the first one of it, not the last one
        right("of the first one", 3, text(number(3) + PLAIN + one(1, 0, 1) + "1" + signed(3) + number(0) + "0" + "0" + number(1)
                + signed(0) + number(0) + "0" + "0"));
        Checks.sameSheet("of the first one", house, 2, ".#...#....", "..........", ".#........", "..........", "..........",
                "..........", "..........", "..........");
    }

    /** "17 a run that goes beyond the samples, or of 0 but for the first one". */
    private static void runs() {
        String begun = number(1) + PLAIN + number(16) + signed(0) + number(0) + "1";
        right("alike in all", 1, text(begun + number(6) + "0"));
        Checks.same("alike in all", 3, house.size(1, 2, 2));
        right("differing in all", 1, text(begun + number(0) + number(6) + "0"));
        Checks.sameSheet("differing in all", house, 2, ".#........", "#.#.......", "..........", "..........", "..........",
                "..........", "..........", "..........");
        right("differing in three, from the second on", 1, text(begun + number(1) + number(3) + number(2) + "0"));
        Checks.sameSheet("differing in three", house, 2, "##........", "##........", "..........", "..........", "..........",
                "..........", "..........", "..........");
        right("each run of 1", 1, text(begun + number(1).repeat(6) + "0"));
        right("each run of 1 behind one of 0", 1, text(begun + number(0) + number(1).repeat(6) + "0"));
        met("beyond the samples", 17, begun + number(7));
        met("beyond the samples, behind one of 0", 17, begun + number(0) + number(7));
        met("one beyond, at last", 17, begun + number(2) + number(3) + number(2));
        met("0 as the second one", 17, begun + number(2) + number(0));
        met("0 behind one of 0", 17, begun + number(0) + number(0));
        met("0 as the third one", 17, begun + number(2) + number(2) + number(0));
        int[] great = Checks.joined(new int[] {84, 1, 8, 8, 1, 8, 8}, repeated(255, 8));
        right("64 runs of 1", 1, Checks.joined(great, Checks.packed(begun + number(1).repeat(64) + "0")));
        Checks.same("64 runs of 1", 32, house.size(1, 2, 2));
        right("65 runs, the first one of 0", 1, Checks.joined(great, Checks.packed(begun + number(0) + number(1).repeat(64) + "0")));
        Checks.holds("65 runs", !house.isDark(2, 0, 0) && house.isDark(2, 1, 0) && house.size(1, 2, 2) == 32);
        right("64 in one", 1, Checks.joined(great, Checks.packed(begun + number(0) + number(64) + "0")));
        Checks.same("64 in one", 0, house.size(1, 2, 2));
        // what differs is of this instance alone
        right("the next one is as the symbol", 2, text(number(2) + PLAIN + number(16) + signed(0) + number(0) + "1" + number(0)
                + number(6) + "1" + signed(0) + number(0) + "0" + "0"));
        Checks.sameSheet("the next one is as the symbol", house, 2, ".#.#.#....", "#.#.#.....", "..........", "..........",
                "..........", "..........", "..........", "..........");
    }

    /** "18 a NUMBER whose k is above 12 (when the 13th 0 comes)": 12 bits 0 may be, wherever a NUMBER is told. */
    private static void longNumbers() {
        String twelve = "0".repeat(12) + "1" + "0".repeat(12);
        String most = "0".repeat(12) + "1" + "1".repeat(12);
        String many = "0".repeat(13);
        String one = number(1) + PLAIN;
        met("instances", 12, twelve);
        met("instances", 12, most);
        met("instances", 18, many);
        met("a strip", 16, one + twelve + signed(0) + number(0));
        met("a strip", 18, one + many);
        met("an x", 16, one + number(16) + most + number(0));
        met("an x", 18, one + number(16) + many);
        met("a name", 15, one + number(16) + signed(0) + twelve);
        met("a name", 18, one + number(16) + signed(0) + many);
        met("a run", 17, one + number(16) + signed(0) + number(0) + "1" + twelve);
        met("a run", 18, one + number(16) + signed(0) + number(0) + "1" + many);
        met("a second strip", 16, number(2) + PLAIN + one(0, 0, 0) + "0" + twelve + signed(0) + number(0));
        met("a second strip", 18, number(2) + PLAIN + one(0, 0, 0) + "0" + many);
        met("a further x", 18, number(2) + PLAIN + one(0, 0, 0) + "1" + many);
        broken("13 bits 0 where the bits end", 18, HEAD.length + 1, text("0".repeat(16)));
        broken("8 bits 0 where the bits end", 11, HEAD.length + 1, text("0".repeat(8)));
    }

    /** "19 behind the end a bit 1 that fills, or a byte (bits that fill are read one by one, too)". */
    private static void behindTheEnd() {
        for (int symbols = 0; symbols < 8; symbols++) {
            // instances of one column each, that take some bits more one after another
            StringBuilder whole = new StringBuilder(number(symbols + 1) + PLAIN + one(0, 0, 1));
            for (int i = 0; i < symbols; i++) {
                whole.append("1").append(signed(0)).append(number(0)).append("0");
            }
            whole.append("0");
            int fill = (8 - whole.length() % 8) % 8;
            right("filled with 0", symbols + 1, text(whole.toString()));
            for (int i = 0; i < fill; i++) {
                String read = whole + "0".repeat(i) + "1";
                broken("bit " + i + " that fills", 19, HEAD.length + read.length() / 8, text(read));
                broken("a bit that fills, and a byte", 19, HEAD.length + read.length() / 8,
                        Checks.joined(text(read), new int[] {0}));
            }
            for (int more : new int[] {0, 1, 255}) {
                broken("a byte " + more, 19, HEAD.length + (whole.length() + 7) / 8,
                        Checks.joined(text(whole.toString()), new int[] {more}));
            }
            broken("two bytes", 19, HEAD.length + (whole.length() + 7) / 8,
                    Checks.joined(text(whole.toString()), new int[] {0, 0}));
        }
        int[] none = {84, 1, 10, 8, 0};
        String empty = number(0) + PLAIN;
        right("no instances", 0, Checks.joined(none, Checks.packed(empty)));
        coded("a bit behind no instances", 19, none, empty + "1");
    }

    private static void firstMet() {
        met("12 before 13", 12, number(41));
        met("13 before codes", 13, number(1) + ways(0, 0, 0, 7));
        coded("14 before the instances", 14, headOf(2), number(1) + PLAIN + fours(0, 2));
        met("16 before the bit that differs", 16, number(1) + PLAIN + number(48) + signed(0) + number(0));
        broken("11 when a bit of eight is not there", 11, HEAD.length + 1, text(number(1) + "00000"));
    }
}
