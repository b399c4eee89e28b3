import java.util.ArrayList;
import java.util.Arrays;
import java.util.List;
import java.util.Random;

/** Promise 12: book and unbook. */
public final class BooksTest {
    private static final int ALL_ONES = -1;

    public static void main(String[] args) {
        wrongCalls();
        sameAsReference();
        tooManySegments();
        readMore();
        faultsOfFronts();
        faultsOfHeads();
        faultsOfSegments();
        faultsOfRegions();
        faultsAtEnds();
        anyBytes();
        Checks.end();
    }

    private static void wrongCalls() {
        PictureCodingHouse house = new PictureCodingHouse();
        house.sheet(0, 4, 4);
        Checks.index("book", () -> house.book(4, 0, 3, 25, 0));
        Checks.index("book", () -> house.book(0, 0, 3, 25, 12));
        Checks.argument("book, n is looked at first", () -> house.book(3, 5, 3, 25, 0));
        Checks.argument("book", () -> house.book(3, 0, 3, 25, 0));
        Checks.index("book, not so many", () -> house.book(3, 2, 3, 25, 0));
        Checks.state("book", () -> house.book(0, 2, 3, 25, 0));
        Checks.argument("book", () -> house.book(0, 1, 3, 0, 0));
        Checks.argument("book", () -> house.book(0, 1, -1, 0, 0));
        Checks.argument("book", () -> house.book(0, 1, 0, 25, 0));
        Checks.argument("book", () -> house.book(0, 1, 0, -1, 0));
        Checks.index("unbook", () -> house.unbook(12, 3, 0));
        Checks.index("unbook", () -> house.unbook(0, 3, 4));
        Checks.argument("unbook", () -> house.unbook(0, 3, 0));
        Checks.argument("unbook", () -> house.unbook(0, -1, 0));
        Checks.same("no work", 0, house.told(0));
    }

    /** A book as heads and data, one for each segment. */
    static final class Book {
        final List<int[]> heads = new ArrayList<>();
        final List<int[]> data = new ArrayList<>();
        int number = 0;

        Book add(int kind, int page, int... bytes) {
            return put(kind, 1, new int[0], page, bytes.length, bytes);
        }

        Book open(int page, int... bytes) {
            return put(38, 1, new int[0], page, ALL_ONES, bytes);
        }

        /** With flags and references. */
        Book refer(int kind, int flags, int[] references, int page, int... bytes) {
            return put(kind, flags, references, page, bytes.length, bytes);
        }

        Book put(int kind, int flags, int[] references, int page, int length, int[] bytes) {
            List<Integer> head = new ArrayList<>();
            Checks.addNumber(head, number++, 4);
            head.add(kind);
            if (references.length <= 4) {
                head.add(32 * references.length + flags);
            } else {
                head.addAll(List.of(224, 0, 0, references.length, flags & 255, flags >> 8));
            }
            for (int reference : references) {
                head.add(reference);
            }
            head.add(page);
            Checks.addNumber(head, length, 4);
            heads.add(Checks.bytes(head));
            data.add(bytes);
            return this;
        }

        int[] file(int order, int pages) {
            List<Integer> front = new ArrayList<>();
            if (order != 2) {
                front.addAll(List.of(151, 74, 66, 50, 13, 10, 26, 10, order == 0 ? 1 : 0));
                Checks.addNumber(front, pages, 4);
            }
            int[] all = Checks.bytes(front);
            for (int i = 0; i < heads.size(); i++) {
                all = Checks.joined(all, heads.get(i), order == 1 ? new int[0] : data.get(i));
            }
            for (int i = 0; i < heads.size() && order == 1; i++) {
                all = Checks.joined(all, data.get(i));
            }
            return all;
        }

        /** Where the head of a segment is in the file. */
        int place(int order, int segment) {
            int place = order == 2 ? 0 : 13;
            for (int i = 0; i < segment; i++) {
                place += heads.get(i).length + (order == 1 ? 0 : data.get(i).length);
            }
            return place;
        }
    }

    static int[] numbers(int... v) {
        List<Integer> bytes = new ArrayList<>();
        for (int one : v) {
            Checks.addNumber(bytes, one, 4);
        }
        return Checks.bytes(bytes);
    }

    static int[] page(int w, int h, int dark, int operator) {
        return Checks.joined(numbers(w, h), new int[] {dark, operator});
    }

    static int[] region(int x, int y, int operator, String... rows) {
        int[] bytes = Checks.joined(numbers(rows[0].length(), rows.length, x, y), new int[] {operator});
        for (String row : rows) {
            bytes = Checks.joined(bytes, Checks.packed(row.replace('.', '0').replace('#', '1')));
        }
        return bytes;
    }

    /** A region of no told length, that tells a height, and has the rows. */
    static int[] open(int h, int x, int y, int operator, String... rows) {
        int[] bytes = Checks.joined(numbers(rows[0].length(), h, x, y), new int[] {operator});
        for (String row : rows) {
            bytes = Checks.joined(bytes, new int[] {1}, Checks.packed(row.replace('.', '0').replace('#', '1')));
        }
        return Checks.joined(bytes, new int[] {255, 172}, numbers(rows.length));
    }

    private static void sameAsReference() {
        Random random = new Random(41);
        for (int run = 0; run < 200; run++) {
            PictureCodingHouse house = new PictureCodingHouse();
            int n = 1 + random.nextInt(4);
            int s = random.nextInt(5 - n);
            int order = random.nextInt(3);
            int stripes = random.nextBoolean() ? 0 : 1 + random.nextInt(random.nextBoolean() ? 3 : 24);
            Book book = new Book();
            String[][] sheets = new String[n][];
            for (int i = 0; i < n; i++) {
                int w = 1 + random.nextInt(24);
                int h = 1 + random.nextInt(stripes > 0 && stripes < 4 ? 6 : 24);
                int few = 1 + random.nextInt(300);
                String[] rows = new String[h];
                for (int y = 0; y < h; y++) {
                    StringBuilder row = new StringBuilder();
                    for (int x = 0; x < w; x++) {
                        row.append(random.nextInt(few) == 0 ? '#' : '.');
                    }
                    rows[y] = row.toString();
                }
                sheets[i] = rows;
                Checks.drawSheet(house, s + i, rows);
                book.add(48, i + 1, page(w, stripes > 0 ? -1 : h, 0, 0));
                for (int y = 0; y < h; y += 16) {
                    for (int x = 0; x < w; x += 16) {
                        String[] piece = Arrays.copyOfRange(rows, y, Math.min(h, y + 16));
                        for (int j = 0; j < piece.length; j++) {
                            piece[j] = piece[j].substring(x, Math.min(w, x + 16));
                        }
                        if (String.join("", piece).contains("#")) {
                            if (stripes > 0) {
                                book.open(i + 1, open(piece.length, x, y, 4, piece));
                            } else {
                                book.add(38, i + 1, region(x, y, 4, piece));
                            }
                        }
                    }
                }
                if (stripes > 0) {
                    for (int row = stripes - 1; row < h; row += stripes) {
                        book.add(50, i + 1, numbers(row));
                    }
                    if (h % stripes != 0) {
                        book.add(50, i + 1, numbers(h - 1));
                    }
                }
                book.add(49, i + 1);
            }
            if (order != 2) {
                book.add(51, 0);
            }
            int answer = house.book(s, n, order, stripes, 2);
            if (book.number > 30) {
                Checks.same("too many segments", -1, answer);
                Checks.same("too many segments", 0, house.size(2, 2, 0));
                continue;
            }
            int[] due = book.file(order, n);
            Checks.same("book", due.length, answer);
            Checks.same("book " + run, due, Checks.file(house, 2));
            PictureCodingHouse other = new PictureCodingHouse();
            Checks.load(other, 0, due);
            Checks.same("unbook", n, other.unbook(0, order, 4 - n));
            Checks.noFault("unbook", other);
            for (int i = 0; i < n; i++) {
                Checks.sameSheet("unbook", other, 4 - n + i, sheets[i]);
            }
            if (n > 1) {
                Checks.sameFault("too many pages", other, other.unbook(0, order, 5 - n), 20, 0);
            }
        }
    }

    private static void tooManySegments() {
        PictureCodingHouse house = new PictureCodingHouse();
        house.sheet(0, 24, 24);
        house.ink(0, 0, 0, 1, true);
        // a page, a region, 24 stripes, an end, and the end of all
        Checks.same("28 segments", 13 + 28 * 11 + 10 + 17 + 16 * 3 + 6 + 24 * 4, house.book(0, 1, 0, 1, 0));
        Checks.same("27 segments", 27 * 11 + 10 + 17 + 16 * 3 + 6 + 24 * 4, house.book(0, 1, 2, 1, 0));
        house.ink(0, 20, 0, 1, true);
        house.ink(0, 0, 20, 1, true);
        Checks.holds("30 segments", house.book(0, 1, 1, 1, 0) > 0);
        house.ink(0, 20, 20, 1, true);
        Checks.holds("30 segments", house.book(0, 1, 2, 1, 0) > 0);
        int before = house.size(2, 0, 0);
        Checks.same("31 segments", -1, house.book(0, 1, 1, 1, 0));
        Checks.same("the file stays", before, house.size(2, 0, 0));
        Checks.same("it is work", 5, house.told(0));
    }

    private static void sameRead(String what, Book book, int count, String... rows) {
        for (int order = 0; order < 3; order++) {
            PictureCodingHouse house = new PictureCodingHouse();
            Book whole = new Book();
            whole.heads.addAll(book.heads);
            whole.data.addAll(book.data);
            whole.number = book.number;
            if (order != 2) {
                whole.add(51, 0);
            }
            Checks.load(house, 0, whole.file(order, 77));
            Checks.same(what + " " + order, count, house.unbook(0, order, 1));
            Checks.noFault(what, house);
            if (count > 0 && house.size(1, 1, 0) > 0) {
                Checks.sameSheet(what, house, 1, rows);
            }
        }
    }

    private static void readMore() {
        sameRead("no pages", new Book(), 0);
        for (int operator = 0; operator <= 5; operator++) {
            for (int pages = 0; pages <= 4; pages++) {
                int does = operator == 5 ? pages : operator;
                // the page has .#.#. laid first, then the region ..## at 0
                String before = ".#.#.";
                String laid = "..##";
                StringBuilder row = new StringBuilder();
                for (int x = 0; x < 5; x++) {
                    boolean p = before.charAt(x) == '#';
                    boolean r = x < 4 && laid.charAt(x) == '#';
                    boolean v = does == 0 ? p || r : does == 1 ? p && r : does == 2 ? p ^ r : does == 3 ? p == r : r;
                    row.append((x < 4 ? v : p) ? '#' : '.');
                }
                sameRead("operators " + operator + pages, new Book().add(48, 3, page(5, 1, 0, pages))
                        .add(38, 3, region(0, 0, 4, before)).add(38, 3, region(0, 0, operator, laid)).add(49, 3),
                        1, row.toString());
            }
        }
        sameRead("dark", new Book().add(48, 9, page(3, 2, 1, 0)).add(38, 9, region(2, 1, 4, "...", "...")).add(49, 9),
                1, "###", "##.");
        sameRead("pages by number", new Book().add(48, 2, page(1, 1, 1, 0)).add(49, 2).add(48, 1, page(2, 1, 0, 0))
                .add(49, 1), 2, "..");
        sameRead("height by stripes", new Book().add(48, 1, page(2, -1, 0, 0)).add(50, 1, numbers(0))
                .add(38, 1, region(0, 0, 4, "##", "##", "##", "##")).add(50, 1, numbers(2)).add(49, 1),
                1, "##", "##", "##");
        sameRead("stripes of a told height", new Book().add(48, 1, page(2, 3, 0, 0)).add(50, 1, numbers(1)).add(49, 1),
                1, "..", "..", "..");
        sameRead("fewer rows than told", new Book().add(48, 1, page(3, 3, 0, 0)).open(1, open(9, 0, 1, 4, "##."))
                .add(49, 1), 1, "...", "##.", "...");
        sameRead("all others", new Book().add(0, 0, 1, 2, 3).add(53, 0).add(62, 0, 127, 0, 0, 0, 9)
                .add(48, 1, page(1, 1, 0, 0)).refer(0, 7, new int[] {0, 1}, 1)
                .refer(4, 3, new int[] {4}, 1, region(0, 0, 5, "#"))
                .refer(6, 31, new int[] {0, 1, 4, 5}, 1, region(0, 0, 4, ".")).add(49, 1), 1, "#");
        sameRead("kept", new Book().add(48, 1, page(4, 2, 0, 0)).add(4, 1, region(0, 0, 4, "#.#", ".##"))
                .refer(6, 3, new int[] {1}, 1, region(1, 0, 4, "##.", "#.."))
                .refer(6, 1, new int[] {1}, 1, region(0, 0, 2, "#.#", ".##")).add(49, 1), 1, "..##", ".###");
        sameRead("kept, wide", new Book().add(48, 1, page(12, 2, 0, 0))
                .add(4, 1, region(0, 0, 4, "#.#.........", "...#....#..#"))
                .refer(6, 3, new int[] {1}, 1, region(0, 0, 4, "##.......#..", "...........#")).add(49, 1),
                1, ".##......#..", "...#....#...");
        sameRead("kept, of 8 columns", new Book().add(48, 1, page(8, 2, 0, 0))
                .add(4, 1, region(0, 0, 4, "#.#.....", "...#....")).refer(6, 3, new int[] {1}, 1,
                region(0, 0, 4, "##......", ".......#")).add(49, 1), 1, ".##.....", "...#...#");
        Book many = new Book();
        for (int i = 0; i < 10; i++) {
            many.add(i % 2 == 0 ? 0 : 53, 0);
        }
        many.refer(0, 0x7FF, new int[] {0, 1, 2, 3, 4, 5, 6, 7, 8, 9}, 0);
        many.refer(0, 0x3F, new int[] {0, 1, 2, 3, 4}, 0);
        sameRead("ten references", many.add(48, 1, page(1, 1, 1, 0)).add(49, 1), 1, "#");
        sameRead("a sheet of 24", new Book().add(48, 1, page(24, 1, 1, 0)).add(49, 1), 1, "#".repeat(24));
    }

    private static void broken(String what, int order, int[] file, int number, int place) {
        PictureCodingHouse house = new PictureCodingHouse();
        house.sheet(0, 1, 1);
        Checks.load(house, 0, file);
        Checks.sameFault(what, house, house.unbook(0, order, 0), number, place);
        Checks.same(what + " changes nothing", 1, house.size(1, 0, 0));
        Checks.same(what + " changes nothing", -1, house.size(1, 1, 0));
    }

    private static void faultsOfFronts() {
        int[] empty = new Book().add(51, 0).file(0, 0);
        broken("12 bytes", 0, Checks.first(empty, 12), 1, 12);
        broken("12 bytes", 1, new int[12], 1, 12);
        broken("13 bytes", 1, new int[13], 2, 0);
        for (int i = 0; i < 9; i++) {
            broken("front " + i, 0, Checks.altered(empty, i, 2), 2, 0);
        }
        broken("another order", 1, empty, 2, 0);
        broken("another order", 0, new Book().add(51, 0).file(1, 0), 2, 0);
        broken("no end", 0, Checks.first(empty, 13), 1, 13);
        broken("no end", 1, Checks.joined(Checks.first(new Book().add(51, 0).file(1, 0), 13)), 1, 13);
        PictureCodingHouse house = new PictureCodingHouse();
        Checks.same("an empty file", 0, house.unbook(0, 2, 0));
    }

    /** The last segment is wrong; told by all orders, for ORDER 1 behind the end of all. */
    private static void wrong(String what, int number, Book book) {
        int segment = book.heads.size() - 1;
        broken(what, 0, book.file(0, 1), number, book.place(0, segment));
        broken(what, 2, book.file(2, 1), number, book.place(2, segment));
        if (number > 4 && !(book.heads.get(segment)[4] == 51)) {
            book.add(51, 0);
            broken(what, 1, book.file(1, 1), number, book.place(1, segment));
        }
    }

    private static void faultsOfHeads() {
        int[] head = new Book().add(48, 1).heads.get(0);
        broken("5 bytes", 2, Checks.first(head, 5), 1, 5);
        broken("8 bytes", 2, Checks.altered(Checks.first(head, 8), 5, 224), 1, 8);
        broken("8 bytes", 2, Checks.altered(Checks.first(head, 8), 5, 255), 1, 8);
        broken("number", 2, Checks.altered(head, 2, 1), 3, 0);
        broken("number", 2, Checks.altered(head, 0, 255), 3, 0);
        Book twice = new Book().add(0, 0);
        twice.number = 0;
        wrong("number not above", 3, twice.add(0, 0));
        int[] nine = Checks.first(Checks.altered(Checks.altered(head, 5, 224), 2, 1), 9);
        broken("nine bytes are enough to look at the number", 2, nine, 3, 0);
        broken("six bytes are enough to look at the number", 2, Checks.first(Checks.altered(head, 2, 1), 6), 3, 0);
        Book last = new Book();
        last.number = 255;
        broken("number 255 may be", 2, last.add(49, 1).file(2, 0), 6, 0);
        for (int kind : new int[] {1, 5, 7, 16, 37, 39, 47, 52, 54, 61, 63, 255}) {
            wrong("kind", 4, new Book().add(0, 0).add(kind, 0));
        }
        broken("end of all by ORDER 2", 2, new Book().add(51, 0).file(2, 0), 4, 0);
        for (int sixth : new int[] {160, 192, 223}) {
            broken("references", 2, Checks.altered(head, 5, sixth), 8, 0);
        }
        int[] many = new Book().refer(0, 1, new int[] {1, 2, 3, 4, 5}, 0).heads.get(0);
        int[][] changes = {{5, 225}, {6, 1}, {7, 1}, {8, 4}, {8, 11}, {8, 0}};
        for (int[] change : changes) {
            broken("many references", 2, Checks.altered(many, change[0], change[1]), 8, 0);
        }
        broken("the rest is cut", 2, Checks.first(head, 10), 1, 10);
        broken("the rest is cut", 2, Checks.first(many, many.length - 1), 1, many.length - 1);
        broken("the rest is cut, before its flags", 2, Checks.first(Checks.altered(head, 5, 3), 10), 1, 10);
        broken("flags", 2, Checks.altered(head, 5, 3), 8, 0);
        broken("flags", 2, Checks.altered(head, 5, 17), 8, 0);
        broken("flags", 2, Checks.altered(many, 9, 64), 8, 0);
        broken("flags", 2, Checks.altered(many, 10, 1), 8, 0);
    }

    private static Book begun() {
        return new Book().add(48, 1, page(8, 8, 0, 0));
    }

    private static void faultsOfSegments() {
        wrong("not read", 5, new Book().refer(0, 3, new int[] {3}, 0));
        wrong("itself", 5, new Book().refer(0, 3, new int[] {0}, 0));
        wrong("gone", 5, new Book().refer(0, 0, new int[0], 0).refer(0, 3, new int[] {0}, 0));
        wrong("let go", 5, new Book().add(0, 0).refer(0, 1, new int[] {0}, 0).refer(0, 3, new int[] {0}, 0));
        wrong("told twice", 5, new Book().add(0, 0).refer(0, 7, new int[] {0, 0}, 0));
        wrong("of another page", 5, begun().add(0, 1).add(49, 1).refer(0, 3, new int[] {1}, 0));
        wrong("a page", 5, begun().refer(0, 3, new int[] {0}, 1));
        wrong("an extension", 5, new Book().add(62, 0, 0, 0, 0, 0).refer(0, 3, new int[] {0}, 0));
        wrong("a dictionary to a kept region", 5, begun().add(4, 1, region(0, 0, 0, "#")).refer(0, 3, new int[] {1}, 1));
        wrong("a kept region to another", 5, begun().add(4, 1, region(0, 0, 0, "#"))
                .refer(4, 3, new int[] {1}, 1, region(0, 0, 0, "#")));
        wrong("two kept regions", 5, begun().add(4, 1, region(0, 0, 0, "#")).add(4, 1, region(0, 0, 0, "#"))
                .refer(6, 7, new int[] {1, 2}, 1, region(0, 0, 0, "#")));
        for (int kind : new int[] {38, 48, 49, 50, 53, 62}) {
            wrong("none may refer", 5, begun().add(0, 0).refer(kind, 3, new int[] {1}, 1));
        }
        Book all = new Book().add(0, 0).refer(51, 3, new int[] {0}, 0);
        broken("the end of all may not refer", 0, all.file(0, 0), 5, all.place(0, 1));
        broken("the end of all may not refer", 1, all.file(1, 0), 5, all.place(1, 1));
        wrong("page 10", 6, new Book().add(48, 10, page(1, 1, 0, 0)));
        wrong("page 10", 6, new Book().add(0, 10));
        wrong("page 0", 6, new Book().add(48, 0, page(1, 1, 0, 0)));
        wrong("there already", 6, begun().add(49, 1).add(48, 1, page(1, 1, 0, 0)));
        wrong("another is open", 6, begun().add(48, 2, page(1, 1, 0, 0)));
        for (int kind : new int[] {4, 6, 38, 49, 50}) {
            wrong("not of the open page", 6, begun().add(kind, 2));
            wrong("of page 0", 6, begun().add(kind, 0));
            wrong("no page is open", 6, new Book().add(kind, 1));
        }
        for (int kind : new int[] {0, 53, 62}) {
            wrong("neither 0 nor that", 6, begun().add(kind, 2));
            wrong("no page is open", 6, begun().add(49, 1).add(kind, 1));
        }
        Book end = begun().add(49, 1).add(51, 1);
        broken("end of all of a page", 0, end.file(0, 1), 6, end.place(0, 2));
        broken("end of all of a page", 1, end.file(1, 1), 6, end.place(1, 2));
        wrong("length of a page", 7, new Book().add(48, 1, new int[9]));
        wrong("length of a page", 7, new Book().add(48, 1, new int[11]));
        wrong("length of an end", 7, begun().add(49, 1, 0));
        wrong("length of a stripe", 7, begun().add(50, 1, 0, 0, 0));
        wrong("length of a dictionary", 7, new Book().add(0, 0, new int[21]));
        wrong("length of tables", 7, new Book().add(53, 0, new int[21]));
        wrong("length of an extension", 7, new Book().add(62, 0, new int[3]));
        wrong("length of an extension", 7, new Book().add(62, 0, new int[25]));
        for (int kind : new int[] {4, 6, 38}) {
            wrong("length of a region", 7, begun().add(kind, 1, new int[16]));
        }
        for (int kind : new int[] {0, 4, 6, 48, 49, 50, 53, 62}) {
            Book book = kind == 48 ? new Book() : begun();
            wrong("no told length", 7, book.put(kind, 1, new int[0], 1, ALL_ONES, new int[0]));
        }
        Book cut = new Book().add(0, 0, 1, 2, 3);
        broken("data is cut", 2, Checks.first(cut.file(2, 0), 13), 1, 13);
        Book huge = begun().put(38, 1, new int[0], 1, -2, region(0, 0, 0, "#"));
        broken("data is much too short", 2, huge.file(2, 0), 1, huge.file(2, 0).length);
        int[][] pages = {{0, 1, 0, 0}, {33, 1, 0, 0}, {1, 0, 0, 0}, {1, 33, 0, 0}, {1, -2, 0, 0}, {-1, 1, 0, 0},
            {1, 1, 2, 0}, {1, 1, 0, 5}};
        for (int[] p : pages) {
            wrong("page", 8, new Book().add(48, 1, page(p[0], p[1], p[2], p[3])));
        }
        wrong("row 32", 8, new Book().add(48, 1, page(1, -1, 0, 0)).add(50, 1, numbers(32)));
        wrong("row not below the height", 8, begun().add(50, 1, numbers(8)));
        wrong("row not above the one before", 8, begun().add(50, 1, numbers(3)).add(50, 1, numbers(3)));
        wrong("row below 0", 8, begun().add(50, 1, numbers(-1)));
        wrong("no stripe", 8, new Book().add(48, 1, page(1, -1, 0, 0)).add(49, 1));
        wrong("needed", 9, new Book().add(62, 0, 128, 0, 0, 0));
    }

    private static void faultsOfRegions() {
        int[] good = region(0, 0, 0, "#########", "#########");
        int[][] changes = {{3, 0}, {3, 17}, {0, 1}, {7, 0}, {7, 17}, {4, 128}, {11, 32}, {15, 32}, {8, 1}, {16, 6}};
        for (int kind : new int[] {4, 6, 38}) {
            for (int[] change : changes) {
                wrong("region " + change[0], 8, begun().add(kind, 1, Checks.altered(good, change[0], change[1])));
            }
            wrong("rows", 7, begun().add(kind, 1, Checks.first(good, good.length - 1)));
            wrong("rows", 7, begun().add(kind, 1, Checks.joined(good, new int[] {0})));
            wrong("a value comes before the rows", 8, begun().add(kind, 1, Checks.first(Checks.altered(good, 3, 0), 18)));
            wrong("filled", 8, begun().add(kind, 1, Checks.altered(good, good.length - 1, 129)));
            wrong("filled", 8, begun().add(kind, 1, Checks.altered(good, 18, 64 + 128)));
        }
        wrong("kept has another width", 5, begun().add(4, 1, region(0, 0, 0, "##"))
                .refer(6, 3, new int[] {1}, 1, region(0, 0, 0, "#")));
        wrong("kept has another height", 5, begun().add(4, 1, region(0, 0, 0, "#", "#"))
                .refer(6, 3, new int[] {1}, 1, region(0, 0, 0, "#")));
        wrong("filled comes first", 8, begun().add(4, 1, region(0, 0, 0, "##"))
                .refer(6, 3, new int[] {1}, 1, Checks.altered(region(0, 0, 0, "#"), 17, 1)));
        int[] open = open(2, 0, 0, 0, "##.", ".##");
        wrong("neither 1 nor 255", 8, begun().open(1, Checks.altered(open, 17, 2)));
        wrong("neither 1 nor 255", 8, begun().open(1, Checks.altered(open, 21, 0)));
        wrong("a row more", 8, begun().open(1, open(2, 0, 0, 0, "##.", ".##", "###")));
        wrong("255 without 172", 8, begun().open(1, Checks.altered(open, 22, 171)));
        wrong("another number of rows", 8, begun().open(1, Checks.altered(open, 26, 1)));
        wrong("another number of rows", 8, begun().open(1, Checks.altered(open, 23, 1)));
        wrong("filled", 8, begun().open(1, Checks.altered(open, 18, 16)));
        wrong("no row", 8, begun().open(1, Checks.joined(Checks.first(open, 17), new int[] {255, 172, 0, 0, 0, 0})));
        wrong("a value", 8, begun().open(1, Checks.altered(open, 3, 17)));
        wrong("a value, and the bytes end", 8, begun().open(1, Checks.first(Checks.altered(open, 3, 17), 17)));
        int[] cut = Checks.first(Checks.altered(open, 20, 1), 21);
        wrong("filled, and the bytes end", 8, begun().open(1, cut));
        Book book = begun().open(1, open);
        int[] file = book.file(2, 1);
        for (int left = 1; left <= open.length; left++) {
            broken("cut", 2, Checks.first(file, file.length - left), 1, file.length - left);
        }
    }

    private static void faultsAtEnds() {
        Book book = begun().add(51, 0);
        broken("open at the end", 0, book.file(0, 1), 10, book.place(0, 1));
        broken("open at the end", 1, book.file(1, 1), 10, book.place(1, 1));
        broken("open at the end", 2, begun().file(2, 1), 10, begun().file(2, 1).length);
        int[] whole = begun().add(49, 1).add(51, 0).file(0, 1);
        broken("more bytes", 0, Checks.joined(whole, new int[] {1, 2}), 10, whole.length);
        whole = begun().add(49, 1).add(51, 0).file(1, 1);
        broken("more bytes", 1, Checks.joined(whole, new int[] {1, 2}), 10, whole.length);
        whole = begun().add(49, 1).file(2, 1);
        broken("more bytes", 2, Checks.joined(whole, new int[] {1, 2}), 1, whole.length + 2);
        Book pages = new Book();
        for (int i = 1; i <= 5; i++) {
            pages.add(48, i, page(32, 32, 0, 0)).add(49, i);
        }
        broken("5 pages", 2, pages.file(2, 1), 20, 0);
        broken("wide", 2, new Book().add(48, 1, page(25, 1, 0, 0)).add(49, 1).file(2, 1), 21, 0);
        broken("high", 2, new Book().add(48, 1, page(1, 25, 0, 0)).add(49, 1).file(2, 1), 21, 0);
        broken("high by stripes", 2, new Book().add(48, 1, page(1, -1, 0, 0)).add(50, 1, numbers(24)).add(49, 1)
                .file(2, 1), 21, 0);
    }

    private static void anyBytes() {
        Random random = new Random(43);
        for (int run = 0; run < 800; run++) {
            PictureCodingHouse house = new PictureCodingHouse();
            Checks.drawSheet(house, 0, "##..#", "...##", "#....", "##.#.");
            Checks.drawSheet(house, 1, "##..##..##..##..##", "...##.##.........#", "#....###...#......");
            int order = random.nextInt(3);
            int n = house.book(0, 2, order, random.nextInt(3), 0);
            for (int i = random.nextInt(3); i >= 0; i--) {
                house.alter(0, random.nextInt(n), random.nextInt(5) == 0 ? random.nextInt(256) : random.nextInt(4));
            }
            int answer = house.unbook(0, order, 2);
            if (house.fault(0) == 0) {
                Checks.holds("pages", answer >= 0 && answer <= 2);
            } else {
                Checks.same("fault", -1 - house.fault(1), answer);
                Checks.same("nothing changed", -1, house.size(1, 2, 0));
            }
        }
    }
}
