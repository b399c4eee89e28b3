/** Promises 1 to 6, 19 and 20: a new object, pictures, sheets, files, what is told, clear. */
public final class BasicsTest {
    public static void main(String[] args) {
        newObject(new PictureCodingHouse());
        pictures();
        copies();
        sheets();
        files();
        joins();
        sizes();
        work();
        cleared();
        Checks.end();
    }

    private static void newObject(PictureCodingHouse house) {
        for (int k = 0; k < 8; k++) {
            Checks.same("picture width", -1, house.size(0, k, 0));
            Checks.same("picture height", -1, house.size(0, k, 1));
            Checks.same("picture inside", 0, house.size(0, k, 2));
        }
        for (int s = 0; s < 4; s++) {
            Checks.same("sheet width", -1, house.size(1, s, 0));
            Checks.same("sheet height", -1, house.size(1, s, 1));
            Checks.same("sheet dark", 0, house.size(1, s, 2));
        }
        for (int f = 0; f < 12; f++) {
            Checks.same("file", 0, house.size(2, f, 0));
        }
        int[] due = {-1, 40, 40, 0, 40, 40, 0, 0, -1, 0, 0, 0, 0, 0, 0, 0, 0};
        for (int what = 1; what <= 16; what++) {
            Checks.same("told " + what, due[what], house.told(what));
        }
        Checks.noFault("new", house);
        for (int share = 0; share < 8; share++) {
            int one = share;
            Checks.state("value", () -> house.value(one));
            for (int other = 0; other < 8; other++) {
                Checks.same("waited", 0, house.waited(share, other));
            }
            Checks.same("needs", 0, house.free(share));
        }
        Checks.index("finished", () -> house.finished(0));
        Checks.state("near", () -> house.near(0));
        Checks.same("NONE", -1, PictureCodingHouse.NONE);
    }

    private static void pictures() {
        PictureCodingHouse house = new PictureCodingHouse();
        house.picture(7, 12, 1);
        Checks.same("width", 12, house.size(0, 7, 0));
        Checks.same("height", 1, house.size(0, 7, 1));
        Checks.same("inside", 12, house.size(0, 7, 2));
        Checks.index("picture 8", () -> house.picture(8, 0, 0));
        Checks.index("picture -1", () -> house.picture(-1, 1, 1));
        Checks.argument("width 0", () -> house.picture(0, 0, 1));
        Checks.argument("width 13", () -> house.picture(0, 13, 1));
        Checks.argument("height 0", () -> house.picture(0, 1, 0));
        Checks.argument("height 13", () -> house.picture(0, 1, 13));
        Checks.same("not there yet", -1, house.size(0, 0, 0));
        Checks.state("put", () -> house.put(0, 99, 99, 0, 999));
        Checks.index("put", () -> house.put(8, 0, 0, 1, 1));
        Checks.index("put", () -> house.put(7, 12, 0, 0, 1));
        Checks.index("put", () -> house.put(7, 0, 1, 0, 1));
        Checks.index("put", () -> house.put(7, -1, 0, 0, 1));
        Checks.argument("put", () -> house.put(7, 0, 0, 0, 1));
        Checks.argument("put", () -> house.put(7, 0, 0, 1, -1));
        Checks.argument("put", () -> house.put(7, 0, 0, 1, 256));
        Checks.same("put none other", 0, house.put(7, 0, 0, 12, 0));
        Checks.same("put", 3, house.put(7, 2, 0, 3, 255));
        Checks.same("put", 10, house.put(7, 2, 0, Integer.MAX_VALUE, 7));
        house.put(7, 5, 0, 1, 9);
        house.put(7, 6, 0, 1, 3);
        Checks.same("put where some are so", 1, house.put(7, 3, 0, 3, 7));
        Checks.same("put where one is so", 3, house.put(7, 4, 0, 3, 3) + house.put(7, 4, 0, 3, 7) - 2);
        Checks.same("at", 0, house.at(7, 1, 0));
        Checks.same("at", 7, house.at(7, 11, 0));
        Checks.same("shape", 2, house.shape(7, 10, 0, 99, false));
        Checks.same("shape", 1, house.shape(7, 9, 0, 3, false));
        Checks.same("shape back", 1, house.shape(7, 9, 0, 1, true));
        Checks.same("at outside", 7, house.at(7, 11, 0));
        Checks.same("put outside", 1, house.put(7, 11, 0, 1, 8));
        Checks.holds("inside", house.isInside(7, 9, 0));
        Checks.holds("outside", !house.isInside(7, 10, 0));
        Checks.same("inside", 10, house.size(0, 7, 2));
        Checks.argument("shape", () -> house.shape(7, 0, 0, 0, true));
        Checks.index("shape", () -> house.shape(7, 0, 1, 0, true));
        Checks.state("shape", () -> house.shape(6, 0, 1, 0, true));
        Checks.index("shape", () -> house.shape(-1, 0, 1, 0, true));
        Checks.index("at", () -> house.at(7, 12, 0));
        Checks.state("at", () -> house.at(6, 12, 0));
        Checks.index("at", () -> house.at(8, 0, 0));
        Checks.index("isInside", () -> house.isInside(7, 0, -1));
        Checks.state("isInside", () -> house.isInside(6, 0, -1));
        Checks.index("isInside", () -> house.isInside(8, 0, 0));
        house.picture(7, 12, 1);
        Checks.same("anew", 0, house.at(7, 11, 0));
        Checks.same("anew inside", 12, house.size(0, 7, 2));
    }

    private static void copies() {
        PictureCodingHouse house = new PictureCodingHouse();
        house.picture(0, 3, 2);
        house.put(0, 1, 1, 1, 9);
        house.shape(0, 1, 1, 1, false);
        house.copy(5, 0);
        house.copy(5, 5);
        house.put(0, 0, 0, 3, 1);
        Checks.samePicture("copy", house, 5, new int[][] {{0, 0, 0}, {0, 9, 0}});
        Checks.holds("copy outside", !house.isInside(5, 1, 1));
        house.copy(5, 1);
        Checks.same("copy of none", -1, house.size(0, 5, 0));
        Checks.same("copy of none", 0, house.size(0, 5, 2));
        Checks.index("copy", () -> house.copy(8, 0));
        Checks.index("copy", () -> house.copy(0, 8));
        Checks.index("copy", () -> house.copy(0, -1));
    }

    private static void sheets() {
        PictureCodingHouse house = new PictureCodingHouse();
        house.sheet(3, 24, 24);
        Checks.same("dark", 0, house.size(1, 3, 2));
        Checks.same("ink", 4, house.ink(3, 20, 23, 9, true));
        Checks.same("ink", 20, house.ink(3, 0, 23, 24, true));
        Checks.same("ink light", 1, house.ink(3, 5, 23, 1, false));
        Checks.holds("dark", house.isDark(3, 4, 23));
        Checks.holds("light", !house.isDark(3, 5, 23));
        Checks.same("dark", 23, house.size(1, 3, 2));
        Checks.index("sheet", () -> house.sheet(4, 1, 1));
        Checks.argument("sheet", () -> house.sheet(0, 25, 1));
        Checks.argument("sheet", () -> house.sheet(0, 1, 0));
        Checks.state("ink", () -> house.ink(0, 0, 0, 0, true));
        Checks.index("ink", () -> house.ink(3, 24, 0, 0, true));
        Checks.argument("ink", () -> house.ink(3, 0, 0, 0, true));
        Checks.index("ink", () -> house.ink(-1, 0, 0, 0, true));
        Checks.index("isDark", () -> house.isDark(3, 0, 24));
        Checks.state("isDark", () -> house.isDark(0, 0, 24));
        house.sheet(2, 24, 24);
        Checks.same("apart", 23, house.apart(2, 3));
        house.ink(2, 0, 23, 5, true);
        house.ink(2, 0, 0, 2, true);
        Checks.same("apart", 20, house.apart(3, 2));
        Checks.same("apart itself", 0, house.apart(3, 3));
        house.sheet(1, 24, 23);
        Checks.state("apart sizes", () -> house.apart(1, 2));
        Checks.state("apart none", () -> house.apart(0, 2));
        Checks.state("apart none", () -> house.apart(2, 0));
        Checks.index("apart", () -> house.apart(0, 4));
        Checks.index("apart", () -> house.apart(4, 0));
    }

    private static void files() {
        PictureCodingHouse house = new PictureCodingHouse();
        Checks.same("feed", 1, house.feed(11, 255));
        Checks.same("feed", 2, house.feed(11, 0));
        Checks.argument("feed", () -> house.feed(11, 256));
        Checks.argument("feed", () -> house.feed(11, -1));
        Checks.index("feed", () -> house.feed(12, 256));
        Checks.same("byteAt", 255, house.byteAt(11, 0));
        Checks.index("byteAt", () -> house.byteAt(11, 2));
        Checks.index("byteAt", () -> house.byteAt(11, -1));
        Checks.index("byteAt", () -> house.byteAt(-1, 0));
        Checks.same("alter", 255, house.alter(11, 0, 4));
        Checks.same("alter", 4, house.alter(11, 0, 5));
        Checks.index("alter", () -> house.alter(11, 2, 256));
        Checks.argument("alter", () -> house.alter(11, 1, 256));
        Checks.same("cut", 2, house.cut(11, 7));
        Checks.same("cut", 1, house.cut(11, 1));
        Checks.argument("cut", () -> house.cut(11, -1));
        Checks.index("cut", () -> house.cut(12, -1));
        Checks.same("cut", 0, house.cut(11, 0));
        for (int i = 1; i <= 1500; i++) {
            Checks.same("feed", i, house.feed(0, i & 255));
        }
        Checks.support("full", () -> house.feed(0, 1));
        Checks.argument("full", () -> house.feed(0, 256));
        Checks.same("full", 1500, house.size(2, 0, 0));
        Checks.support("join", () -> house.join(0, 0, 1, 0));
        Checks.same("join nothing", 0, house.join(0, 0, 0, 0));
    }

    private static void joins() {
        PictureCodingHouse house = new PictureCodingHouse();
        Checks.load(house, 1, new int[] {1, 2, 3, 4});
        Checks.same("join", 2, house.join(1, 1, 2, 2));
        Checks.same("join", 4, house.join(1, 0, Integer.MAX_VALUE, 2));
        Checks.same("joined", new int[] {2, 3, 1, 2, 3, 4}, Checks.file(house, 2));
        Checks.same("join itself", 3, house.join(1, 1, 99, 1));
        Checks.same("joined itself", new int[] {1, 2, 3, 4, 2, 3, 4}, Checks.file(house, 1));
        Checks.index("join", () -> house.join(1, 7, 0, 2));
        Checks.index("join", () -> house.join(1, -1, -1, 2));
        Checks.index("join of an empty one", () -> house.join(3, 0, 0, 2));
        Checks.index("join", () -> house.join(1, 0, -1, 12));
        Checks.argument("join", () -> house.join(1, 0, -1, 2));
        for (int i = 0; i < 1496; i++) {
            house.feed(4, 9);
        }
        Checks.support("too long", () -> house.join(1, 0, 5, 4));
        Checks.same("just", 4, house.join(1, 0, 4, 4));
        Checks.same("just", 1500, house.size(2, 4, 0));
    }

    private static void sizes() {
        PictureCodingHouse house = new PictureCodingHouse();
        Checks.index("size", () -> house.size(0, 8, 5));
        Checks.index("size", () -> house.size(1, 4, 0));
        Checks.index("size", () -> house.size(2, 12, 0));
        Checks.index("size", () -> house.size(2, -1, 0));
        Checks.argument("size", () -> house.size(0, 7, 3));
        Checks.argument("size", () -> house.size(1, 3, -1));
        Checks.argument("size", () -> house.size(2, 11, 1));
        Checks.argument("size", () -> house.size(3, 0, 0));
        Checks.argument("told", () -> house.told(-1));
        Checks.argument("told", () -> house.told(17));
        Checks.argument("fault", () -> house.fault(-1));
        Checks.argument("fault", () -> house.fault(2));
    }

    private static void work() {
        PictureCodingHouse house = new PictureCodingHouse();
        house.picture(0, 2, 2);
        for (int i = 1; i <= 291; i++) {
            house.wave(0, 0, 0);
            Checks.same("work", i, house.told(0));
        }
        Checks.same("batch", 0, house.batch(3, 1, 2, 0));
        Checks.same("work", 300, house.told(0));
        house.clear();
        Checks.same("work stays", 300, house.told(0));
        house.picture(0, 2, 2);
        house.sheet(0, 2, 2);
        Checks.support("lines", () -> house.lines(0, 1, 0, 0, 0, 0));
        Checks.support("unline", () -> house.unline(0, 0));
        Checks.support("waves", () -> house.waves(0, 0, 0));
        Checks.support("unwave", () -> house.unwave(0, 0, 0));
        Checks.support("wave", () -> house.wave(0, 0, 0));
        Checks.support("chunks", () -> house.chunks(0, 0));
        Checks.support("unchunk", () -> house.unchunk(0, 0));
        Checks.support("pack", () -> house.pack(0, 0, 0));
        Checks.support("unpack", () -> house.unpack(0, 0));
        Checks.support("greys", () -> house.greys(0, 1, 0));
        Checks.support("ungrey", () -> house.ungrey(0, 0));
        Checks.support("text", () -> house.text(0, 0, 0, 0));
        Checks.support("untext", () -> house.untext(0, 0));
        Checks.support("book", () -> house.book(0, 1, 0, 0, 0));
        Checks.support("unbook", () -> house.unbook(0, 0, 0));
        Checks.support("album", () -> house.album(0));
        Checks.support("batch", () -> house.batch(1, 0, 0, 0));
        Checks.argument("batch", () -> house.batch(0, 0, 0, 0));
        Checks.argument("pack", () -> house.pack(0, 10, 0));
        Checks.noFault("a call that throws changes nothing", house);
        Checks.same("halftone is none", 0, house.halftone(0, 1, 0) - 4);
        eachIsOne();
        PictureCodingHouse other = new PictureCodingHouse();
        other.picture(0, 1, 1);
        for (int i = 0; i < 292; i++) {
            other.wave(0, 0, 0);
        }
        Checks.support("eight are too few for a batch", () -> other.batch(1, 0, 0, 0));
        Checks.same("unline answers a fault", -1, other.unline(0, 0));
        Checks.same("it is work", 293, other.told(0));
    }

    private static void eachIsOne() {
        PictureCodingHouse house = new PictureCodingHouse();
        house.picture(0, 2, 2);
        house.sheet(0, 2, 2);
        Runnable[] calls = {() -> house.lines(0, 1, 0, 0, 0, 0), () -> house.unline(0, 1), () -> house.waves(0, 99, 0),
            () -> house.unwave(0, 99, 1), () -> house.wave(0, 0, 0), () -> house.chunks(0, 0),
            () -> house.unchunk(0, 1), () -> house.pack(0, 9, 1), () -> house.unpack(1, 0), () -> house.greys(0, 1, 0),
            () -> house.ungrey(0, 1), () -> house.text(0, 0, 0, 0), () -> house.untext(0, 1),
            () -> house.book(0, 1, 0, 0, 0), () -> house.unbook(0, 0, 1), () -> house.album(0)};
        for (int i = 0; i < calls.length; i++) {
            calls[i].run();
            Checks.same("each is one, " + i, i + 1, house.told(0));
            Checks.noFault("each is right, " + i, house);
        }
        house.batch(1, 1, 2, 0);
        Checks.same("a batch is nine", calls.length + 9, house.told(0));
        house.unbook(2, 0, 1);
        Checks.same("one that meets a fault", calls.length + 10, house.told(0));
    }

    private static void cleared() {
        PictureCodingHouse house = new PictureCodingHouse();
        house.picture(0, 2, 2);
        house.picture(1, 2, 2);
        house.sheet(0, 2, 2);
        house.feed(0, 1);
        house.unline(0, 0);
        house.place(0, 0, 0);
        house.swap();
        house.place(0, 4, 4);
        house.crop(5, 0, 20, 30);
        house.turn(5);
        house.failing(1, 1, 1, 1);
        house.stop(4);
        house.need(1, 0, 0, 1);
        Checks.same("batch", 1, house.batch(2, 5, 2, 0));
        int done = house.told(0);
        house.clear();
        newObject(house);
        Checks.same("work done", done, house.told(0));
    }
}
