import java.util.ArrayList;
import java.util.Arrays;
import java.util.List;

/** Promise 12 and 8 BOOKS: pieces, stripes, heads, pages and regions at their bounds; each FAULT by all ORDERS. */
public final class BookEdgesTest {
    private static PictureCodingHouse house = new PictureCodingHouse();
    private static final int[] NONE = {};
    private static final int[] KINDS = {0, 4, 6, 38, 48, 49, 50, 51, 53, 62};

    public static void main(String[] args) {
        pieces();
        stripes();
        segmentsAtMost();
        pagesInTurn();
        cutAnywhere();
        fronts();
        shortHeads();
        numbersOfHeads();
        kinds();
        references();
        flags();
        headsInOrder();
        readBefore();
        kindsThatMayBeReferredTo();
        letGo();
        letGoOfTen();
        pageNumbers();
        pagesOpen();
        lengths();
        pageValues();
        stripeRows();
        heightsByStripes();
        regionValues();
        regionRows();
        openRows();
        keptRegions();
        extensions();
        operators();
        whereRegionsLie();
        ends();
        toSheets();
        Checks.end();
    }

    private static PictureCodingHouse next() {
        if (house.told(0) > 280) {
            house = new PictureCodingHouse();
        }
        if (house.size(1, 0, 0) < 0) {
            house.sheet(0, 5, 4);
            house.ink(0, 1, 1, 3, true);
        }
        return house;
    }

    private static BooksTest.Book book() {
        return new BooksTest.Book();
    }

    private static int[] page(int w, int h) {
        return BooksTest.page(w, h, 0, 0);
    }

    private static BooksTest.Book begun() {
        return book().add(48, 1, page(8, 8));
    }

    private static int[] region(String... rows) {
        return BooksTest.region(0, 0, 4, rows);
    }

    private static void broken(String what, int order, int[] file, int number, int place) {
        PictureCodingHouse h = next();
        Checks.load(h, 0, file);
        Checks.broken(what + ", order " + order, h, number, place, () -> h.unbook(0, order, 0));
    }

    /** The last segment is the wrong one: by ORDERS 0 and 2 with and without bytes behind it, by 1 before the end of all. */
    private static void wrong(String what, int number, BooksTest.Book book) {
        int segment = book.heads.size() - 1;
        for (int order : new int[] {0, 2}) {
            broken(what, order, book.file(order, 1), number, book.place(order, segment));
            broken(what + ", more behind", order, Checks.joined(book.file(order, 1), new int[40]), number,
                    book.place(order, segment));
        }
        if (number > 4 && book.heads.get(segment)[4] != 51) {
            book.add(51, 0);
            broken(what, 1, book.file(1, 1), number, book.place(1, segment));
        }
    }

    /** Read by each ORDER; the end of all is put behind it. */
    private static void right(String what, int pages, BooksTest.Book book, String... rows) {
        for (int order = 0; order < 3; order++) {
            BooksTest.Book whole = book();
            whole.heads.addAll(book.heads);
            whole.data.addAll(book.data);
            whole.number = book.number;
            if (order != 2) {
                whole.add(51, 0);
            }
            PictureCodingHouse h = next();
            int by = order;
            Checks.load(h, 0, whole.file(order, 0));
            Checks.read(what + ", order " + order, h, pages, () -> h.unbook(0, by, 1));
            if (rows.length > 0) {
                Checks.sameSheet(what, h, 1, rows);
            }
        }
    }

    // ---- writing

    /** "PIECES are of 16 by 16 samples (less at the right and below)": one for each that has a dark sample. */
    private static void pieces() {
        for (int w : new int[] {1, 8, 9, 15, 16, 17, 24}) {
            for (int h : new int[] {1, 15, 16, 17, 24}) {
                PictureCodingHouse house = next();
                house.sheet(1, w, h);
                int bytes = 11 + 10 + 11;
                Checks.same("light, " + w + " by " + h, bytes, house.book(1, 1, 2, 0, 0));
                for (int y = 0; y < h; y += 16) {
                    for (int x = 0; x < w; x += 16) {
                        int wide = Math.min(16, w - x);
                        int high = Math.min(16, h - y);
                        // its last sample alone
                        house.ink(1, x + wide - 1, y + high - 1, 1, true);
                        bytes += 11 + 17 + high * ((wide + 7) / 8);
                        Checks.same("a piece more, " + w + " by " + h, bytes, house.book(1, 1, 2, 0, 0));
                    }
                }
                house.sheet(2, 1, 1);
                Checks.read("unbook", house, 1, () -> house.unbook(0, 2, 2));
                Checks.same("unbook", 0, house.apart(1, 2));
            }
        }
    }

    /** "one for rows r - 1, 2 r - 1, .., as long as they are on the sheet, and for the last row of it". */
    private static void stripes() {
        for (int h : new int[] {1, 2, 3, 23, 24}) {
            for (int r : new int[] {1, 2, 3, 7, 11, 12, 13, 22, 23, 24}) {
                List<Integer> rows = new ArrayList<>();
                for (int y = 0; y < h; y++) {
                    if (y % r == r - 1 || y == h - 1) {
                        rows.add(y);
                    }
                }
                PictureCodingHouse house = next();
                house.sheet(1, 2, h);
                if (rows.size() + 2 <= 30) {
                    int n = house.book(1, 1, 2, r, 0);
                    Checks.same("stripes of " + r + " rows of " + h, 11 + 10 + 15 * rows.size() + 11, n);
                    for (int i = 0; i < rows.size(); i++) {
                        Checks.same("row", rows.get(i), house.byteAt(0, 21 + 15 * i + 14));
                    }
                    Checks.same("no told height", 255, house.byteAt(0, 15));
                    Checks.read("unbook", house, 1, () -> house.unbook(0, 2, 2));
                    Checks.same("height", h, house.size(1, 2, 1));
                }
            }
            PictureCodingHouse house = next();
            Checks.same("without stripes", 32, house.book(1, 1, 2, 0, 0));
            Checks.same("the height", h, house.byteAt(0, 18));
        }
    }

    /** "A book has none of more than 30 SEGMENTS": 30 may be, 31 not; the end of all is one. */
    private static void segmentsAtMost() {
        for (int order = 0; order < 3; order++) {
            for (int stripes = 1; stripes <= 24; stripes++) {
                PictureCodingHouse h = next();
                for (int s = 0; s < 4; s++) {
                    h.sheet(s, 3, 24);
                    h.ink(s, 0, 0, 1, true);
                }
                for (int n = 1; n <= 4; n++) {
                    int segments = n * (3 + (24 + stripes - 1) / stripes) + (order < 2 ? 1 : 0);
                    Checks.load(h, 0, new int[] {5});
                    int bytes = h.book(0, n, order, stripes, 0);
                    Checks.holds(segments + " segments: " + bytes, bytes > 0 == segments <= 30);
                    Checks.same("the file", bytes > 0 ? bytes : 1, h.size(2, 0, 0));
                }
            }
        }
    }

    private static void pagesInTurn() {
        PictureCodingHouse h = next();
        for (int s = 0; s < 4; s++) {
            h.sheet(s, s + 1, 2);
            h.ink(s, s, 1, 1, true);
        }
        for (int order = 0; order < 3; order++) {
            for (int n = 1; n <= 4; n++) {
                h.book(4 - n, n, order, 0, 0);
                if (order < 2) {
                    Checks.same("how many pages", n, h.byteAt(0, 12));
                    Checks.same("the order", 1 - order, h.byteAt(0, 8));
                }
                PictureCodingHouse other = new PictureCodingHouse();
                int by = order;
                Checks.load(other, 0, Checks.file(h, 0));
                Checks.read("unbook", other, n, () -> other.unbook(0, by, 0));
                for (int i = 0; i < n; i++) {
                    Checks.same("width", 4 - n + i + 1, other.size(1, i, 0));
                    Checks.holds("its sample", other.isDark(i, 4 - n + i, 1));
                }
            }
        }
    }

    // ---- the front and heads

    private static BooksTest.Book some() {
        return book().add(0, 0, 1, 2).add(48, 1, page(9, -1)).open(1, BooksTest.open(2, 0, 0, 4, "##.######", "#.......#"))
                .add(4, 1, region("##", ".#")).refer(6, 3, new int[] {3}, 1, region("#.", "##")).add(50, 1, 0, 0, 0, 1)
                .add(62, 0, 1, 0, 0, 0, 7).add(49, 1);
    }

    /** "CUT: as many bytes as there are", wherever a file is cut. */
    private static void cutAnywhere() {
        right("whole", 1, some());
        for (int order = 0; order < 3; order++) {
            BooksTest.Book book = some();
            if (order < 2) {
                book.add(51, 0);
            }
            List<Integer> begins = new ArrayList<>();
            for (int i = 0; i < book.heads.size(); i++) {
                begins.add(book.place(order, i));
            }
            int[] whole = book.file(order, 1);
            for (int n = 0; n < whole.length; n++) {
                if (order == 2 && begins.contains(n)) {
                    // behind whole segments: no page there, or one that is open
                    if (n > book.heads.get(0).length + 2) {
                        broken("between segments " + n, 2, Checks.first(whole, n), 10, n);
                    }
                } else {
                    broken("cut to " + n, order, Checks.first(whole, n), 1, n);
                }
            }
        }
        right("no segment", 0, book());
    }

    /** "1 CUT: fewer than 13 bytes; 2 (at 0): the first nine are not those." */
    private static void fronts() {
        for (int order = 0; order < 2; order++) {
            int[] whole = begun().add(49, 1).add(51, 0).file(order, 1);
            for (int i = 0; i < 9; i++) {
                broken("byte " + i, order, Checks.altered(whole, i, whole[i] ^ 2), 2, 0);
                broken("byte " + i + ", but fewer than 13", order, Checks.first(Checks.altered(whole, i, whole[i] ^ 2), 12), 1,
                        12);
                broken("byte " + i + ", and no more than 13", order, Checks.first(Checks.altered(whole, i, whole[i] ^ 2), 13),
                        2, 0);
            }
            broken("the other order", order, Checks.altered(whole, 8, order), 2, 0);
            for (int i = 9; i < 13; i++) {
                PictureCodingHouse h = next();
                int by = order;
                Checks.load(h, 0, Checks.altered(whole, i, 200));
                Checks.read("how many pages is not looked at", h, 1, () -> h.unbook(0, by, 1));
            }
        }
    }

    /** "fewer than six bytes are left, or nine, if the sixth is 224 or more". */
    private static void shortHeads() {
        // a number that may not be: told when six bytes, or nine, are there
        int[] head = {1, 0, 0, 0, 48, 1, 1, 0, 0, 0, 10};
        for (int n = 1; n <= 11; n++) {
            broken("of " + n, 2, Checks.first(head, n), n < 6 ? 1 : 3, n < 6 ? n : 0);
        }
        for (int sixth : new int[] {224, 225, 255}) {
            int[] great = Checks.altered(head, 5, sixth);
            for (int n = 1; n <= 11; n++) {
                broken("of " + n + ", sixth " + sixth, 2, Checks.first(great, n), n < 9 ? 1 : 3, n < 9 ? n : 0);
            }
        }
        int[] good = {0, 0, 0, 0, 48, 223, 1, 0, 0, 0, 10};
        for (int n = 6; n <= 11; n++) {
            broken("sixth 223, of " + n, 2, Checks.first(good, n), 8, 0);
        }
        // the second head, by each order
        int[] whole = begun().file(0, 1);
        for (int n = 1; n < 6; n++) {
            broken("the second one, of " + n, 0, Checks.joined(whole, Checks.first(head, n)), 1, whole.length + n);
        }
        broken("the second one, of 6", 0, Checks.joined(whole, Checks.first(head, 6)), 3, whole.length);
    }

    /** "not above that of the HEAD before, or above 255". */
    private static void numbersOfHeads() {
        int[][] may = {{0, 1}, {0, 255}, {5, 6}, {254, 255}, {0, 128}};
        for (int[] two : may) {
            BooksTest.Book book = book();
            book.number = two[0];
            book.add(48, 1, page(1, 1));
            book.number = two[1];
            book.add(49, 1);
            PictureCodingHouse h = next();
            Checks.load(h, 0, book.file(2, 1));
            Checks.read("numbers " + two[0] + " " + two[1], h, 1, () -> h.unbook(0, 2, 1));
        }
        int[][] not = {{0, 0}, {5, 5}, {5, 4}, {255, 255}, {255, 0}, {0, 256}, {0, 65536}, {0, -1}, {0, 0x01000001}};
        for (int[] two : not) {
            BooksTest.Book book = book();
            book.number = two[0];
            book.add(48, 1, page(1, 1));
            book.number = two[1];
            wrong("numbers " + two[0] + " " + two[1], 3, book.add(49, 1));
        }
        for (int first : new int[] {256, -1, Integer.MIN_VALUE}) {
            BooksTest.Book book = book();
            book.number = first;
            wrong("first number " + first, 3, book.add(48, 1, page(1, 1)));
        }
        BooksTest.Book twice = begun().add(49, 1);
        twice.number = 1;
        twice.add(51, 0);
        broken("all heads are looked at first", 1, twice.file(1, 1), 3, twice.place(1, 2));
    }

    private static void kinds() {
        for (int kind = 0; kind < 256; kind++) {
            int one = kind;
            boolean is = Arrays.stream(KINDS).anyMatch(k -> k == one);
            if (!is) {
                wrong("kind " + kind, 4, begun().add(kind, 1));
                BooksTest.Book book = begun().add(kind, 1).add(49, 1).add(51, 0);
                broken("kind " + kind, 1, book.file(1, 1), 4, book.place(1, 1));
            }
        }
        broken("51 by ORDER 2", 2, begun().add(49, 1).add(51, 0).file(2, 1), 4, begun().add(49, 1).file(2, 1).length);
    }

    /** "the sixth byte is 160 .. 223; or 224 or more, and these four are not 224, 0, 0 and 5 .. 10". */
    private static void references() {
        for (int n = 0; n <= 10; n++) {
            BooksTest.Book book = book();
            int[] all = new int[n];
            for (int i = 0; i < n; i++) {
                book.add(i % 2 == 0 ? 0 : 53, 0);
                all[i] = i;
            }
            right(n + " references", 0, book.refer(0, (2 << n) - 1, all, 0));
            if (n > 0) {
                all[n - 1] = n;
                BooksTest.Book other = book();
                for (int i = 0; i < n; i++) {
                    other.add(0, 0);
                }
                wrong(n + " references, the last one is none", 5, other.refer(0, (2 << n) - 1, all, 0));
            }
        }
        for (int sixth = 160; sixth < 224; sixth += 9) {
            broken("sixth " + sixth, 2, Checks.altered(new int[20], 5, sixth), 8, 0);
        }
        int[] many = new int[40];
        many[5] = 224;
        for (int i = 0; i < 256; i++) {
            if (i < 5 || i > 10) {
                broken("224, 0, 0, " + i, 2, Checks.altered(many, 8, i), 8, 0);
            }
        }
        many[8] = 5;
        for (int sixth = 225; sixth < 256; sixth++) {
            broken(sixth + ", 0, 0, 5", 2, Checks.altered(many, 5, sixth), 8, 0);
        }
        broken("224, 1, 0, 5", 2, Checks.altered(many, 6, 1), 8, 0);
        broken("224, 0, 1, 5", 2, Checks.altered(many, 7, 1), 8, 0);
    }

    /** "FLAGS behind that of the last one are not 0". */
    private static void flags() {
        for (int n = 0; n <= 4; n++) {
            for (int bit = 0; bit < 5; bit++) {
                BooksTest.Book book = book();
                int[] all = new int[n];
                for (int i = 0; i < n; i++) {
                    book.add(0, 0);
                    all[i] = i;
                }
                book.refer(0, 1 << bit, all, 0);
                if (bit <= n) {
                    right("flag " + bit + " of " + n, 0, book);
                } else {
                    wrong("flag " + bit + " of " + n, 8, book);
                }
            }
        }
        for (int n = 5; n <= 10; n++) {
            for (int bit = 0; bit < 16; bit++) {
                BooksTest.Book book = book();
                int[] all = new int[n];
                for (int i = 0; i < n; i++) {
                    book.add(0, 0);
                    all[i] = i;
                }
                book.refer(0, 1 << bit, all, 0);
                if (bit <= n) {
                    right("flag " + bit + " of " + n, 0, book);
                } else {
                    wrong("flag " + bit + " of " + n, 8, book);
                }
            }
        }
    }

    /** "Of a HEAD, in this order": 1, 3, 4, 8, 1, 8; then 5, 6, 7, 1, 8. */
    private static void headsInOrder() {
        int[] bad = {9, 9, 9, 9, 99, 160, 99, 9, 9, 9, 9};
        broken("number before kind", 2, bad, 3, 0);
        int[] kind = {0, 0, 0, 0, 99, 160, 99, 9, 9, 9, 9};
        broken("kind before the sixth byte", 2, kind, 4, 0);
        int[] sixth = {0, 0, 0, 0, 48, 160, 99};
        broken("the sixth byte before the rest is wanted", 2, sixth, 8, 0);
        int[] rest = {0, 0, 0, 0, 0, 4, 0, 0, 0, 0};
        broken("the rest before its flags", 2, rest, 1, 10);
        broken("flags, when the rest is there", 2, Checks.joined(rest, new int[] {0}), 8, 0);
        wrong("flags before references", 8, book().refer(0, 4, new int[] {7}, 0));
        wrong("references before the page", 5, book().refer(0, 3, new int[] {7}, 99));
        wrong("the page before the length", 6, book().add(0, 99, new int[99]));
        BooksTest.Book length = book().put(48, 1, NONE, 1, 9, NONE);
        broken("the length before its data is wanted", 2, length.file(2, 1), 7, 0);
        BooksTest.Book data = book().put(48, 1, NONE, 1, 10, new int[9]);
        broken("the data before its values", 2, data.file(2, 1), 1, data.file(2, 1).length);
        wrong("values, when the data is there", 8, book().put(48, 1, NONE, 1, 10, new int[10]));
    }

    // ---- 5 REFERENCE

    private static void readBefore() {
        wrong("none read", 5, book().refer(0, 3, new int[] {0}, 0));
        wrong("a later one", 5, book().add(0, 0).refer(0, 3, new int[] {2}, 0));
        wrong("itself", 5, book().add(0, 0).refer(0, 3, new int[] {1}, 0));
        wrong("255", 5, book().add(0, 0).refer(0, 3, new int[] {255}, 0));
        BooksTest.Book later = book().refer(0, 3, new int[] {1}, 0).add(0, 0).add(51, 0);
        broken("a later one, whose head was read", 1, later.file(1, 1), 5, later.place(1, 0));
        right("the one before", 0, book().add(0, 0).refer(0, 3, new int[] {0}, 0));
        wrong("told twice", 5, book().add(0, 0).refer(0, 7, new int[] {0, 0}, 0));
        wrong("told twice, not one behind the other", 5, book().add(0, 0).add(53, 0).refer(0, 15, new int[] {0, 1, 0}, 0));
        right("two", 0, book().add(0, 0).add(53, 0).refer(0, 7, new int[] {1, 0}, 0));
        // of another page than 0 or its own
        right("of page 0", 1, begun().add(0, 0).refer(0, 3, new int[] {1}, 1).add(49, 1));
        right("of its own page", 1, begun().add(0, 1).refer(0, 3, new int[] {1}, 1).add(49, 1));
        wrong("of a page, for page 0", 5, begun().add(0, 1).refer(0, 3, new int[] {1}, 0));
        wrong("of another page", 5, begun().add(0, 1).add(49, 1).add(48, 2, page(1, 1)).refer(0, 3, new int[] {1}, 2));
        right("for page 0, while a page is open", 1, begun().add(0, 0).refer(0, 3, new int[] {1}, 0).add(49, 1));
    }

    private static int[] dataOf(int kind) {
        switch (kind) {
            case 4: case 6: case 38: return region("#");
            case 48: return page(1, 1);
            case 50: return new int[] {0, 0, 0, 3};
            case 62: return new int[4];
            default: return NONE;
        }
    }

    /** "dictionaries and kept regions may refer to dictionaries and tables, regions of KIND 6 also to one kept region". */
    private static void kindsThatMayBeReferredTo() {
        for (int other : KINDS) {
            for (int kind : KINDS) {
                if (other == 51) {
                    continue;
                }
                BooksTest.Book book = other == 48 ? book() : begun();
                int page = 1;
                book.add(other, page, dataOf(other));
                int number = book.number - 1;
                int to = kind == 51 ? 0 : kind == 48 ? 2 : 1;
                boolean isShared = other == 0 || other == 53;
                boolean may = isShared && (kind == 0 || kind == 4 || kind == 6) || kind == 6 && other == 4;
                if (may) {
                    right(kind + " to " + other, 1, book.refer(kind, 3, new int[] {number}, to, dataOf(kind)).add(49, 1));
                } else if (kind == 51) {
                    book.refer(51, 3, new int[] {number}, 0);
                    broken("51 to " + other, 0, book.file(0, 1), 5, book.place(0, book.heads.size() - 1));
                    broken("51 to " + other, 1, book.file(1, 1), 5, book.place(1, book.heads.size() - 1));
                } else {
                    wrong(kind + " to " + other, 5, book.refer(kind, 3, new int[] {number}, to, dataOf(kind)));
                }
            }
        }
        right("one kept region among others", 1, begun().add(0, 1).add(4, 1, region("#")).add(53, 0)
                .refer(6, 15, new int[] {1, 2, 3}, 1, region("#")).add(49, 1));
        wrong("two kept regions", 5, begun().add(4, 1, region("#")).add(4, 1, region("#"))
                .refer(6, 7, new int[] {1, 2}, 1, region("#")));
        wrong("two kept regions, with one between", 5, begun().add(4, 1, region("#")).add(0, 1).add(4, 1, region("#"))
                .refer(6, 15, new int[] {1, 2, 3}, 1, region("#")));
        wrong("a second one that may not be", 5, begun().add(0, 1).refer(0, 7, new int[] {1, 0}, 1));
    }

    /** "bit 0 is 1 if it does not LET itself GO, bit k likewise for the k-th that it REFERS to". */
    private static void letGo() {
        for (int flags = 0; flags < 8; flags++) {
            for (int which = 0; which < 3; which++) {
                BooksTest.Book book = book().add(0, 0).add(53, 0).refer(0, flags, new int[] {0, 1}, 0);
                // which is it: itself is number 2, the first one 0, the second one 1
                int bit = which == 2 ? 0 : which + 1;
                book.refer(0, 3, new int[] {which}, 0);
                if ((flags >> bit & 1) == 1) {
                    right("kept " + flags + " " + which, 0, book);
                } else {
                    wrong("let go " + flags + " " + which, 5, book);
                }
            }
        }
        wrong("a region lets go its kept one", 5, begun().add(4, 1, region("#")).refer(6, 1, new int[] {1}, 1, region("#"))
                .refer(6, 1, new int[] {1}, 1, region("#")));
        right("a region does not let it go", 1, begun().add(4, 1, region("#")).refer(6, 3, new int[] {1}, 1, region("#"))
                .refer(6, 1, new int[] {1}, 1, region("#")).add(49, 1));
        wrong("a kept region lets itself go", 5, begun().refer(4, 0, NONE, 1, region("#"))
                .refer(6, 3, new int[] {1}, 1, region("#")));
    }

    /** The same of ten: two bytes of FLAGS, "the one of the lowest first". */
    private static void letGoOfTen() {
        for (int n : new int[] {5, 8, 9, 10}) {
            for (int kept = 0; kept <= n; kept++) {
                for (int which = 0; which <= n; which++) {
                    BooksTest.Book book = book();
                    int[] all = new int[n];
                    for (int i = 0; i < n; i++) {
                        book.add(0, 0);
                        all[i] = i;
                    }
                    book.refer(0, 1 << kept, all, 0).refer(0, 3, new int[] {which == 0 ? n : which - 1}, 0);
                    PictureCodingHouse h = next();
                    int[] file = book.file(2, 1);
                    if (which == kept) {
                        Checks.load(h, 0, file);
                        Checks.read("kept " + kept + " of " + n, h, 0, () -> h.unbook(0, 2, 1));
                    } else {
                        broken("let go " + which + " of " + n, 2, file, 5, book.place(2, n + 1));
                    }
                }
            }
        }
    }

    // ---- 6 PAGE

    private static void pageNumbers() {
        for (int page = 1; page <= 9; page++) {
            right("page " + page, 1, book().add(48, page, page(2, 1)).add(38, page, region("#.")).add(49, page), "#.");
        }
        for (int page : new int[] {10, 11, 128, 255}) {
            for (int kind : KINDS) {
                if (kind != 51) {
                    wrong("page " + page + " of " + kind, 6, (kind == 48 ? book() : begun()).add(kind, page, dataOf(kind)));
                }
            }
        }
        wrong("a page 0", 6, book().add(48, 0, page(1, 1)));
        wrong("there already", 6, begun().add(49, 1).add(48, 1, page(1, 1)));
        wrong("there already, and open", 6, begun().add(48, 1, page(1, 1)));
        wrong("another is open", 6, begun().add(48, 2, page(1, 1)));
        right("another has ended", 2, begun().add(49, 1).add(48, 2, page(1, 1)).add(49, 2));
        right("before one that has ended", 2, book().add(48, 5, page(1, 1)).add(49, 5).add(48, 2, page(2, 1)).add(49, 2), "..");
    }

    private static void pagesOpen() {
        for (int kind : new int[] {4, 6, 38, 49, 50}) {
            wrong("no page is open, " + kind, 6, book().add(kind, 1, dataOf(kind)));
            wrong("no page is open, of page 0, " + kind, 6, book().add(kind, 0, dataOf(kind)));
            wrong("it has ended, " + kind, 6, begun().add(49, 1).add(kind, 1, dataOf(kind)));
            wrong("another is open, " + kind, 6, begun().add(kind, 2, dataOf(kind)));
            wrong("of page 0, " + kind, 6, begun().add(kind, 0, dataOf(kind)));
            right("of the open one, " + kind, 1, kind == 49 ? begun().add(49, 1)
                    : begun().add(kind, 1, dataOf(kind)).add(49, 1));
        }
        for (int kind : new int[] {0, 53, 62}) {
            right("of page 0, no page is open, " + kind, 0, book().add(kind, 0, dataOf(kind)));
            right("of page 0, a page is open, " + kind, 1, begun().add(kind, 0, dataOf(kind)).add(49, 1));
            right("of the open page, " + kind, 1, begun().add(kind, 1, dataOf(kind)).add(49, 1));
            wrong("of no open page, " + kind, 6, book().add(kind, 1, dataOf(kind)));
            wrong("of a page that has ended, " + kind, 6, begun().add(49, 1).add(kind, 1, dataOf(kind)));
            wrong("of another than the open one, " + kind, 6, begun().add(kind, 2, dataOf(kind)));
        }
        for (int page : new int[] {1, 2, 10}) {
            BooksTest.Book book = begun().add(49, 1).add(51, page);
            broken("the end of all, of page " + page, 0, book.file(0, 1), 6, book.place(0, 2));
            broken("the end of all, of page " + page, 1, book.file(1, 1), 6, book.place(1, 2));
        }
    }

    // ---- 7 LENGTH

    private static void lengths() {
        int[][] bounds = {{0, 0, 20}, {53, 0, 20}, {62, 4, 24}};
        for (int[] one : bounds) {
            for (int n : new int[] {one[1], one[1] + 1, one[2] - 1, one[2]}) {
                right("kind " + one[0] + " of " + n, 0, book().add(one[0], 0, new int[n]));
            }
            for (int n : new int[] {one[1] - 1, 0, one[2] + 1, 99}) {
                if (n >= 0 && (n < one[1] || n > one[2])) {
                    wrong("kind " + one[0] + " of " + n, 7, book().add(one[0], 0, new int[n]));
                }
            }
        }
        for (int n : new int[] {0, 8, 9, 11, 12}) {
            wrong("a page of " + n, 7, book().add(48, 1, Checks.first(Checks.joined(page(1, 1), new int[9]), n)));
        }
        for (int n : new int[] {1, 4, 9}) {
            wrong("an end of a page of " + n, 7, begun().add(49, 1, new int[n]));
            BooksTest.Book book = begun().add(49, 1).add(51, 0, new int[n]);
            broken("an end of all of " + n, 0, book.file(0, 1), 7, book.place(0, 2));
            broken("an end of all of " + n, 1, book.file(1, 1), 7, book.place(1, 2));
        }
        for (int n : new int[] {0, 3, 5, 8}) {
            wrong("an end of a stripe of " + n, 7, begun().add(50, 1, new int[n]));
        }
        for (int kind : new int[] {4, 6, 38}) {
            for (int n : new int[] {0, 1, 15, 16}) {
                wrong("a region of " + n, 7, begun().add(kind, 1, new int[n]));
            }
            wrong("a region of 17: its values are looked at", 8, begun().add(kind, 1, new int[17]));
            wrong("a region of 17, without rows", 7, begun().add(kind, 1, Checks.first(region("#"), 17)));
        }
        for (int kind : KINDS) {
            if (kind != 38 && kind != 51) {
                wrong("all ones of " + kind, 7, (kind == 48 ? book() : begun()).put(kind, 1, NONE, kind == 0 ? 0 : 1, -1,
                        dataOf(kind)));
            }
        }
        BooksTest.Book great = begun().put(38, 1, NONE, 1, -2, region("#"));
        broken("one less than all ones is not there", 2, great.file(2, 1), 1, great.file(2, 1).length);
    }

    // ---- 8 VALUE

    private static void pageValues() {
        for (int side : new int[] {1, 24}) {
            right("width " + side, 1, book().add(48, 1, page(side, 1)).add(49, 1), ".".repeat(side));
            right("height " + side, 1, book().add(48, 1, page(1, side)).add(49, 1));
            Checks.same("height " + side, side, house.size(1, 1, 1));
        }
        for (int order = 0; order < 3; order++) {
            for (int side : new int[] {25, 32}) {
                BooksTest.Book wide = book().add(48, 1, page(side, 1)).add(49, 1);
                BooksTest.Book high = book().add(48, 1, page(1, side)).add(49, 1);
                if (order < 2) {
                    wide.add(51, 0);
                    high.add(51, 0);
                }
                broken("width " + side, order, wide.file(order, 1), 21, 0);
                broken("height " + side, order, high.file(order, 1), 21, 0);
            }
        }
        for (int side : new int[] {0, 33, 256 + 1, -2, Integer.MIN_VALUE}) {
            wrong("width " + side, 8, book().add(48, 1, page(side, 1)));
            wrong("height " + side, 8, book().add(48, 1, page(1, side)));
        }
        wrong("width of all ones", 8, book().add(48, 1, page(-1, 1)));
        for (int dark : new int[] {0, 1}) {
            for (int operator = 0; operator <= 4; operator++) {
                right("dark " + dark, 1, book().add(48, 1, BooksTest.page(2, 2, dark, operator)).add(49, 1),
                        dark == 1 ? "##" : "..", dark == 1 ? "##" : "..");
            }
        }
        for (int wrong : new int[] {2, 3, 128, 255}) {
            wrong("dark " + wrong, 8, book().add(48, 1, BooksTest.page(2, 2, wrong, 0)));
        }
        for (int operator : new int[] {5, 6, 255}) {
            wrong("operator " + operator, 8, book().add(48, 1, BooksTest.page(2, 2, 0, operator)));
        }
    }

    /** "a row 0 .. 31 .. not below the page's height (if that is known), or not above that of the stripe before". */
    private static void stripeRows() {
        for (int height : new int[] {1, 8, 24}) {
            right("the last row", 1, book().add(48, 1, page(1, height)).add(50, 1, BooksTest.numbers(height - 1)).add(49, 1));
            Checks.same("the height stays", height, house.size(1, 1, 1));
            right("the first row", 1, book().add(48, 1, page(1, height)).add(50, 1, BooksTest.numbers(0)).add(49, 1));
            Checks.same("the height stays", height, house.size(1, 1, 1));
            for (int row : new int[] {height, 31, 32, -1, 256, Integer.MIN_VALUE}) {
                wrong("row " + row + " of " + height, 8, book().add(48, 1, page(1, height)).add(50, 1, BooksTest.numbers(row)));
            }
        }
        right("rising by 1", 1, begun().add(50, 1, BooksTest.numbers(0)).add(50, 1, BooksTest.numbers(1)).add(49, 1));
        for (int row : new int[] {0, 2, 3}) {
            wrong("not above 3", 8, begun().add(50, 1, BooksTest.numbers(3)).add(50, 1, BooksTest.numbers(row)));
        }
        right("anew for each page", 2, begun().add(50, 1, BooksTest.numbers(3)).add(49, 1).add(48, 2, page(1, 2))
                .add(50, 2, BooksTest.numbers(0)).add(49, 2));
        BooksTest.Book row = book().add(48, 1, page(1, -1)).add(50, 1, BooksTest.numbers(31)).add(49, 1);
        broken("row 31 of no known height, but it is above 24", 2, row.file(2, 1), 21, 0);
        wrong("row 32 of no known height", 8, book().add(48, 1, page(1, -1)).add(50, 1, BooksTest.numbers(32)));
        wrong("not above the one before, of no known height", 8, book().add(48, 1, page(1, -1))
                .add(50, 1, BooksTest.numbers(5)).add(50, 1, BooksTest.numbers(5)));
    }

    /** "its height is that of its last stripe's row and 1, if it was not known"; "that ends without a stripe". */
    private static void heightsByStripes() {
        for (int row : new int[] {0, 1, 22, 23}) {
            right("row " + row, 1, book().add(48, 1, page(2, -1)).add(50, 1, BooksTest.numbers(row)).add(49, 1));
            Checks.same("height", row + 1, house.size(1, 1, 1));
        }
        right("the last of two", 1, book().add(48, 1, BooksTest.page(1, -1, 1, 0)).add(50, 1, BooksTest.numbers(0))
                .add(50, 1, BooksTest.numbers(2)).add(49, 1), "#", "#", "#");
        wrong("none", 8, book().add(48, 1, page(2, -1)).add(49, 1));
        wrong("none, of the second page", 8, begun().add(50, 1, BooksTest.numbers(1)).add(49, 1).add(48, 2, page(2, -1))
                .add(49, 2));
        right("none is wanted of a known height", 1, begun().add(49, 1));
        right("a region goes where the page will be", 1, book().add(48, 1, page(2, -1))
                .add(38, 1, BooksTest.region(0, 1, 4, "##", "##", "##")).add(50, 1, BooksTest.numbers(2)).add(49, 1),
                "..", "##", "##");
    }

    private static void regionValues() {
        int[] good = region("#########", "#########");
        for (int kind : new int[] {4, 6, 38}) {
            for (int side : new int[] {1, 16}) {
                String[] wide = {"#".repeat(side)};
                String[] high = new String[side];
                Arrays.fill(high, "#");
                right("width " + side, 1, begun().add(kind, 1, region(wide)).add(49, 1));
                right("height " + side, 1, begun().add(kind, 1, region(high)).add(49, 1));
            }
            for (int at : new int[] {0, 31}) {
                right("x " + at, 1, begun().add(kind, 1, BooksTest.region(at, 0, 4, "#")).add(49, 1));
                right("y " + at, 1, begun().add(kind, 1, BooksTest.region(0, at, 4, "#")).add(49, 1));
            }
            for (int operator = 0; operator <= 5; operator++) {
                right("operator " + operator, 1, begun().add(kind, 1, BooksTest.region(0, 0, operator, "#")).add(49, 1));
            }
            int[][] changes = {{3, 0}, {3, 17}, {3, 255}, {0, 1}, {0, 128}, {2, 1}, {7, 0}, {7, 17}, {4, 128}, {6, 1}, {11, 32},
                {11, 255}, {8, 1}, {10, 1}, {8, 255}, {15, 32}, {12, 255}, {14, 1}, {16, 6}, {16, 255}};
            for (int[] change : changes) {
                wrong("byte " + change[0] + " is " + change[1], 8, begun().add(kind, 1,
                        Checks.altered(good, change[0], change[1])));
            }
        }
        int[] open = BooksTest.open(2, 0, 0, 4, "##", "##");
        for (int[] change : new int[][] {{3, 0}, {3, 17}, {7, 0}, {7, 17}, {11, 32}, {15, 32}, {16, 6}}) {
            wrong("of no told length, byte " + change[0], 8, begun().open(1, Checks.altered(open, change[0], change[1])));
        }
    }

    /** "7: not as many bytes as its rows need. 8: a bit that fills and is not 0", in this order. */
    private static void regionRows() {
        for (int kind : new int[] {4, 6, 38}) {
            for (int width = 1; width <= 16; width++) {
                String row = "#".repeat(width);
                int[] good = region(row, row);
                right("width " + width, 1, begun().add(kind, 1, good).add(49, 1));
                wrong("a byte less", 7, begun().add(kind, 1, Checks.first(good, good.length - 1)));
                wrong("a byte more", 7, begun().add(kind, 1, Checks.joined(good, new int[] {0})));
                wrong("a row more", 7, begun().add(kind, 1, Checks.altered(region(row, row, row), 7, 2)));
                int rowBytes = (width + 7) / 8;
                for (int bit = width; bit < 8 * rowBytes; bit++) {
                    for (int y = 0; y < 2; y++) {
                        int at = 17 + y * rowBytes + bit / 8;
                        wrong("bit " + bit + " of " + width, 8, begun().add(kind, 1,
                                Checks.altered(good, at, good[at] | 128 >> bit % 8)));
                    }
                }
            }
            wrong("7 before a bit that fills", 7, begun().add(kind, 1,
                    Checks.joined(Checks.altered(region("#"), 17, 129), new int[] {0})));
            wrong("a value before 7", 8, begun().add(kind, 1, Checks.joined(Checks.altered(region("#"), 16, 6), new int[] {0})));
        }
    }

    /** "of one of no told length, byte by byte". */
    private static void openRows() {
        for (int rows = 1; rows <= 16; rows++) {
            String[] lines = new String[rows];
            Arrays.fill(lines, "#.#");
            for (int height : new int[] {rows, 16}) {
                int[] data = BooksTest.open(height, 0, 0, 4, lines);
                right(rows + " rows of " + height, 1, begun().open(1, data).add(49, 1));
                wrong("one less told", 8, begun().open(1, Checks.altered(data, data.length - 1, rows - 1)));
                wrong("one more told", 8, begun().open(1, Checks.altered(data, data.length - 1, rows + 1)));
                wrong("256 more told", 8, begun().open(1, Checks.altered(data, data.length - 2, 1)));
                wrong("below 0 told", 8, begun().open(1, Checks.altered(data, data.length - 4, 128)));
            }
            if (rows > 1) {
                wrong("a row more than its height", 8, begun().open(1, BooksTest.open(rows - 1, 0, 0, 4, lines)));
            }
        }
        int[] data = BooksTest.open(3, 0, 0, 4, "#########", ".........");
        for (int before : new int[] {0, 2, 128, 254}) {
            wrong("before the first row " + before, 8, begun().open(1, Checks.altered(data, 17, before)));
            wrong("before the second row " + before, 8, begun().open(1, Checks.altered(data, 20, before)));
            wrong("behind the last row " + before, 8, begun().open(1, Checks.altered(data, 23, before)));
        }
        for (int behind : new int[] {0, 171, 173, 255}) {
            wrong("255 without 172, " + behind, 8, begun().open(1, Checks.altered(data, 24, behind)));
        }
        int[] none = Checks.joined(Checks.first(data, 17), new int[] {255, 172, 0, 0, 0, 0});
        wrong("no row", 8, begun().open(1, none));
        wrong("no row, but one told", 8, begun().open(1, Checks.altered(none, none.length - 1, 1)));
        for (int bit = 1; bit < 8; bit++) {
            wrong("a bit that fills " + bit, 8, begun().open(1, Checks.altered(data, 19, 128 | 128 >> bit)));
            wrong("a bit that fills in the second row " + bit, 8, begun().open(1, Checks.altered(data, 22, 128 >> bit)));
        }
        // what can't be is told before the bytes behind it are wanted
        BooksTest.Book cut = begun().open(1, Checks.first(Checks.altered(data, 20, 7), 21));
        broken("a byte before a row, and no more", 2, cut.file(2, 1), 8, cut.place(2, 1));
        cut = begun().open(1, Checks.first(Checks.altered(data, 24, 7), 25));
        broken("255 without 172, and no more", 2, cut.file(2, 1), 8, cut.place(2, 1));
        cut = begun().open(1, Checks.first(Checks.altered(data, 22, 1), 23));
        broken("a bit that fills, and no more", 2, cut.file(2, 1), 8, cut.place(2, 1));
        cut = begun().open(1, Checks.joined(Checks.first(BooksTest.open(1, 0, 0, 4, "#"), 19), new int[] {1}));
        broken("a row more, and no more", 2, cut.file(2, 1), 8, cut.place(2, 1));
        // as high as it has rows: the page stays as it is below them
        right("fewer rows than told", 1, book().add(48, 1, BooksTest.page(3, 3, 1, 0))
                .open(1, BooksTest.open(3, 0, 0, 4, "...")).add(49, 1), "...", "###", "###");
        right("of each operator", 1, book().add(48, 1, BooksTest.page(3, 2, 1, 0))
                .open(1, BooksTest.open(9, 0, 0, 1, "#.#")).open(1, BooksTest.open(9, 0, 1, 2, "##.")).add(49, 1), "#.#", "..#");
    }

    /** "5: the kept region is of another width or height", behind a bit that fills; samples that differ from it. */
    private static void keptRegions() {
        for (int w = 1; w <= 16; w++) {
            String even = "#.".repeat(8).substring(0, w);
            String odd = ".#".repeat(8).substring(0, w);
            String all = "#".repeat(w);
            String none = ".".repeat(w);
            right("kept, width " + w, 1, book().add(48, 1, page(w, 2)).add(4, 1, region(even, all))
                    .refer(6, 3, new int[] {1}, 1, region(all, none)).add(49, 1), odd, all);
            if (w > 1) {
                wrong("a column less", 5, begun().add(4, 1, region(even, all))
                        .refer(6, 3, new int[] {1}, 1, region(all.substring(1), none.substring(1))));
            }
            wrong("a row less", 5, begun().add(4, 1, region(even, all)).refer(6, 3, new int[] {1}, 1, region(all)));
            wrong("a row more", 5, begun().add(4, 1, region(even, all)).refer(6, 3, new int[] {1}, 1, region(all, all, all)));
        }
        wrong("a bit that fills is told first", 8, begun().add(4, 1, region("##"))
                .refer(6, 3, new int[] {1}, 1, Checks.altered(region("#"), 17, 129)));
        right("where it lies does not matter", 1, book().add(48, 1, page(3, 1)).add(4, 1, BooksTest.region(31, 31, 0, "#"))
                .refer(6, 3, new int[] {1}, 1, BooksTest.region(1, 0, 4, ".")).add(49, 1), ".#.");
        right("a kept region is not put upon the page", 1, book().add(48, 1, page(2, 1)).add(4, 1, region("##")).add(49, 1),
                "..");
        right("a region of KIND 6 without one", 1, book().add(48, 1, page(2, 1)).add(6, 1, region("#.")).add(49, 1), "#.");
    }

    /** "9 NEEDED: an extension with a type below 0." */
    private static void extensions() {
        for (int type : new int[] {0, 1, Integer.MAX_VALUE}) {
            right("type " + type, 0, book().add(62, 0, BooksTest.numbers(type)));
            right("type " + type, 0, book().add(62, 0, Checks.joined(BooksTest.numbers(type), new int[20])));
        }
        for (int type : new int[] {-1, Integer.MIN_VALUE, -65536}) {
            wrong("type " + type, 9, book().add(62, 0, BooksTest.numbers(type)));
            wrong("type " + type, 9, begun().add(62, 1, Checks.joined(BooksTest.numbers(type), new int[20])));
        }
    }

    // ---- pages

    /** "0 or, 1 and, 2 whether they differ, 3 whether they are the same, 4 that of the region, 5 as the page says". */
    private static void operators() {
        String[] due = {".###", "...#", ".##.", "#..#", ".#.#"};
        for (int operator = 0; operator <= 5; operator++) {
            for (int pages = 0; pages <= 4; pages++) {
                int does = operator == 5 ? pages : operator;
                right("operator " + operator + " of " + pages, 1, book().add(48, 1, BooksTest.page(4, 1, 0, pages))
                        .add(38, 1, region("..##")).add(38, 1, BooksTest.region(0, 0, operator, ".#.#")).add(49, 1), due[does]);
                right("KIND 6, operator " + operator + " of " + pages, 1, book().add(48, 1, BooksTest.page(4, 1, 0, pages))
                        .add(38, 1, region("..##")).add(6, 1, BooksTest.region(0, 0, operator, ".#.#")).add(49, 1), due[does]);
            }
        }
    }

    /** "where they lie in its width and height". */
    private static void whereRegionsLie() {
        right("partly at the right", 1, book().add(48, 1, page(3, 1)).add(38, 1, BooksTest.region(2, 0, 4, "##")).add(49, 1),
                "..#");
        right("partly below", 1, book().add(48, 1, page(1, 3)).add(38, 1, BooksTest.region(0, 2, 4, "#", "#")).add(49, 1),
                ".", ".", "#");
        right("just behind the width", 1, book().add(48, 1, page(3, 1)).add(38, 1, BooksTest.region(3, 0, 4, "##")).add(49, 1),
                "...");
        right("just behind the height", 1, book().add(48, 1, page(1, 2)).add(38, 1, BooksTest.region(0, 2, 4, "#")).add(49, 1),
                ".", ".");
        right("at the last sample", 1, book().add(48, 1, page(3, 2)).add(38, 1, BooksTest.region(2, 1, 4, "#")).add(49, 1),
                "...", "..#");
    }

    // ---- 10 END, 20 and 21

    private static void ends() {
        for (int order = 0; order < 2; order++) {
            BooksTest.Book open = begun().add(51, 0);
            broken("a page is open", order, open.file(order, 1), 10, open.place(order, 1));
            broken("a page is open, and more bytes", order, Checks.joined(open.file(order, 1), new int[9]), 10,
                    open.place(order, 1));
            int[] whole = begun().add(49, 1).add(51, 0).file(order, 1);
            for (int more : new int[] {1, 2, 11, 40}) {
                broken("more bytes " + more, order, Checks.joined(whole, new int[more]), 10, whole.length);
            }
            int[] none = book().add(51, 0).file(order, 0);
            PictureCodingHouse h = next();
            int by = order;
            Checks.load(h, 0, none);
            Checks.read("no page", h, 0, () -> h.unbook(0, by, 1));
            broken("more bytes behind no page", order, Checks.joined(none, new int[1]), 10, none.length);
        }
        broken("a page is open when the bytes end", 2, begun().file(2, 1), 10, 21);
        broken("the second page is open", 2, begun().add(49, 1).add(48, 2, page(1, 1)).file(2, 1), 10, 53);
        right("behind one that was left open", 1, begun().add(49, 1));
        BooksTest.Book five = book();
        for (int i = 1; i <= 5; i++) {
            five.add(48, i, page(1, 1)).add(49, i);
        }
        broken("more bytes before too many pages", 0, Checks.joined(five.add(51, 0).file(0, 1), new int[1]), 10,
                five.file(0, 1).length);
    }

    /** "20: more pages than there are sheets from the one on that is named; 21: a page is wider or higher than 24." */
    private static void toSheets() {
        for (int order = 0; order < 3; order++) {
            for (int n = 1; n <= 9; n++) {
                BooksTest.Book book = book();
                for (int i = n; i >= 1; i--) {
                    book.add(48, i, page(i, 1)).add(49, i);
                }
                if (order < 2) {
                    book.add(51, 0);
                }
                for (int s = 0; s < 4; s++) {
                    PictureCodingHouse h = next();
                    int by = order;
                    int to = s;
                    Checks.load(h, 0, book.file(order, n));
                    if (n <= 4 - s) {
                        Checks.read("pages " + n, h, n, () -> h.unbook(0, by, to));
                        for (int i = 1; i <= n; i++) {
                            Checks.same("by their numbers", i, h.size(1, s + i - 1, 0));
                        }
                    } else {
                        Checks.broken("pages " + n, h, 20, 0, () -> h.unbook(0, by, to));
                    }
                }
            }
        }
        BooksTest.Book wide = book().add(48, 1, page(25, 1)).add(49, 1).add(48, 2, page(1, 1)).add(49, 2);
        PictureCodingHouse h = next();
        Checks.load(h, 0, wide.file(2, 1));
        Checks.broken("20 before 21", h, 20, 0, () -> h.unbook(0, 2, 3));
        Checks.broken("21", h, 21, 0, () -> h.unbook(0, 2, 2));
        BooksTest.Book second = book().add(48, 1, page(24, 24)).add(49, 1).add(48, 2, page(24, 25)).add(49, 2);
        broken("the second one is too high", 2, second.file(2, 1), 21, 0);
    }
}
