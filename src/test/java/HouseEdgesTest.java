import java.util.function.IntSupplier;

/** 1 THE HOUSE, and promises 1 to 6, 13 (fault), 19 and 20: rows that end, full files, WORK, FAULTS, what clear leaves. */
public final class HouseEdgesTest {
    public static void main(String[] args) {
        samplesToTheRight();
        picturesAnew();
        copies();
        sheetsAnew();
        apartAtTheCorners();
        fullFiles();
        cutFiles();
        joinedFiles();
        writtenInPlace();
        lastWork();
        workWhateverItAnswers();
        callsThatAreNoWork();
        faultOfTheLatest();
        faultsOfEach();
        samplesOutside();
        sizesOfNothing();
        clearedWhole();
        Checks.end();
    }

    // ---- pictures and sheets

    /** "n to the right or as many as there are": up to the last column, and not into the next row. */
    private static void samplesToTheRight() {
        PictureCodingHouse house = new PictureCodingHouse();
        house.picture(7, 12, 12);
        Checks.same("one less than there are", 11, house.put(7, 0, 4, 11, 1));
        Checks.same("the last column stays", 0, house.at(7, 11, 4));
        Checks.same("as many as there are", 1, house.put(7, 0, 4, 12, 1));
        Checks.same("one more", 12, house.put(7, 0, 4, 13, 255));
        Checks.same("the next row stays", 0, house.at(7, 0, 5));
        Checks.same("the row before stays", 0, house.at(7, 11, 3));
        Checks.same("from the last column on", 1, house.put(7, 11, 4, Integer.MAX_VALUE, 0));
        Checks.same("the last sample", 1, house.put(7, 11, 11, 1, 255));
        Checks.same("none is other", 0, house.put(7, 11, 11, 2, 255));
        Checks.same("shape, one less", 11, house.shape(7, 0, 4, 11, false));
        Checks.holds("the last column stays", house.isInside(7, 11, 4));
        Checks.same("shape, as many", 1, house.shape(7, 0, 4, 12, false));
        Checks.holds("the next row stays", house.isInside(7, 0, 5));
        Checks.same("shape, one more", 12, house.shape(7, 0, 4, 13, true));
        Checks.same("shape, the last sample", 1, house.shape(7, 11, 11, Integer.MAX_VALUE, false));
        Checks.same("inside", 143, house.size(0, 7, 2));
        house.sheet(3, 24, 24);
        Checks.same("ink, one less", 23, house.ink(3, 0, 4, 23, true));
        Checks.holds("the last column stays", !house.isDark(3, 23, 4));
        Checks.same("ink, as many", 1, house.ink(3, 0, 4, 24, true));
        Checks.same("ink, one more", 24, house.ink(3, 0, 4, 25, false));
        Checks.same("ink, more than there are", 24, house.ink(3, 0, 4, Integer.MAX_VALUE, true));
        Checks.holds("the next row stays", !house.isDark(3, 0, 5));
        Checks.same("the last sample", 1, house.ink(3, 23, 23, 9, true));
        Checks.same("dark", 25, house.size(1, 3, 2));
    }

    /** "with this size, samples 0, wholly INSIDE", in place of the one that was. */
    private static void picturesAnew() {
        PictureCodingHouse house = new PictureCodingHouse();
        for (int[] size : new int[][] {{1, 1}, {12, 12}, {1, 12}, {12, 1}, {5, 7}, {12, 12}}) {
            house.picture(0, size[0], size[1]);
            Checks.same("width", size[0], house.size(0, 0, 0));
            Checks.same("height", size[1], house.size(0, 0, 1));
            Checks.samePicture("samples", house, 0, new int[size[1]][size[0]]);
            Checks.same("wholly inside", size[0] * size[1], house.size(0, 0, 2));
            for (int y = 0; y < size[1]; y++) {
                house.put(0, 0, y, 12, 99);
                house.shape(0, 0, y, 12, false);
            }
            Checks.same("nothing inside", 0, house.size(0, 0, 2));
        }
        Checks.same("others stay as they were", -1, house.size(0, 1, 0));
    }

    private static void copies() {
        PictureCodingHouse house = new PictureCodingHouse();
        house.picture(7, 12, 12);
        house.put(7, 11, 11, 1, 9);
        house.shape(7, 11, 11, 1, false);
        house.picture(0, 1, 1);
        house.copy(0, 7);
        Checks.same("a sample that is not inside, too", 9, house.at(0, 11, 11));
        Checks.holds("the shape, too", !house.isInside(0, 11, 11));
        house.copy(7, 7);
        Checks.same("of itself", 9, house.at(7, 11, 11));
        Checks.same("of itself", 143, house.size(0, 7, 2));
        house.copy(7, 6);
        Checks.same("not there, as that", -1, house.size(0, 7, 1));
        house.copy(6, 6);
        Checks.same("of itself, not there", -1, house.size(0, 6, 0));
        Checks.same("the copy stays", 9, house.at(0, 11, 11));
        house.copy(7, 0);
        Checks.same("there again", 143, house.size(0, 7, 2));
    }

    private static void sheetsAnew() {
        PictureCodingHouse house = new PictureCodingHouse();
        for (int[] size : new int[][] {{1, 1}, {24, 24}, {1, 24}, {24, 1}, {24, 24}}) {
            house.sheet(3, size[0], size[1]);
            Checks.same("width", size[0], house.size(1, 3, 0));
            Checks.same("height", size[1], house.size(1, 3, 1));
            Checks.same("light", 0, house.size(1, 3, 2));
            for (int y = 0; y < size[1]; y++) {
                Checks.same("light", size[0], house.ink(3, 0, y, 24, true));
            }
            Checks.same("dark", size[0] * size[1], house.size(1, 3, 2));
        }
    }

    private static void apartAtTheCorners() {
        PictureCodingHouse house = new PictureCodingHouse();
        house.sheet(0, 24, 24);
        house.sheet(1, 24, 24);
        Checks.same("alike", 0, house.apart(0, 1));
        house.ink(0, 0, 0, 1, true);
        house.ink(1, 23, 23, 1, true);
        Checks.same("dark in one, dark in the other", 2, house.apart(0, 1));
        for (int y = 0; y < 24; y++) {
            house.ink(0, 0, y, 24, true);
            house.ink(1, 0, y, 24, false);
        }
        Checks.same("all", 576, house.apart(1, 0));
        Checks.same("itself", 0, house.apart(0, 0));
    }

    // ---- files

    private static PictureCodingHouse filled(int bytes) {
        PictureCodingHouse house = new PictureCodingHouse();
        for (int i = 0; i < bytes; i++) {
            house.feed(0, i & 255);
        }
        return house;
    }

    /** "1500 bytes at most": the last byte that may come, and the first one that may not. */
    private static void fullFiles() {
        PictureCodingHouse house = filled(1499);
        Checks.same("the 1500th", 1500, house.feed(0, 77));
        Checks.same("the 1500th", 77, house.byteAt(0, 1499));
        Checks.refused("behind the last byte", IndexOutOfBoundsException.class, house, () -> house.byteAt(0, 1500));
        Checks.refused("the 1501st", UnsupportedOperationException.class, house, () -> house.feed(0, 1));
        Checks.same("alter the last one", 77, house.alter(0, 1499, 255));
        Checks.refused("alter behind it", IndexOutOfBoundsException.class, house, () -> house.alter(0, 1500, 1));
        Checks.same("cut one", 1499, house.cut(0, 1499));
        Checks.same("again", 1500, house.feed(0, 0));
        PictureCodingHouse empty = new PictureCodingHouse();
        Checks.refused("of an empty file", IndexOutOfBoundsException.class, empty, () -> empty.byteAt(0, 0));
        Checks.refused("of an empty file", IndexOutOfBoundsException.class, empty, () -> empty.alter(0, 0, 0));
        Checks.same("the first byte", 1, empty.feed(0, 0));
        Checks.same("the first byte", 0, empty.byteAt(0, 0));
    }

    /** "its first n bytes, or all it has". */
    private static void cutFiles() {
        PictureCodingHouse house = filled(3);
        Checks.same("more than it has", 3, house.cut(0, 4));
        Checks.same("much more", 3, house.cut(0, Integer.MAX_VALUE));
        Checks.same("all", 3, house.cut(0, 3));
        Checks.same("one less", 2, house.cut(0, 2));
        Checks.same("the first ones stay", new int[] {0, 1}, Checks.file(house, 0));
        Checks.same("none", 0, house.cut(0, 0));
        Checks.same("of none", 0, house.cut(0, 0));
        Checks.same("an empty one", 0, house.cut(11, 5));
    }

    private static void joinedFiles() {
        PictureCodingHouse house = filled(1500);
        Checks.same("all to an empty one", 1500, house.join(0, 0, 1500, 1));
        Checks.same("the same bytes", Checks.file(house, 0), Checks.file(house, 1));
        Checks.same("none to a full one", 0, house.join(0, 1499, 0, 1));
        Checks.refused("one to a full one", UnsupportedOperationException.class, house, () -> house.join(0, 1499, 1, 1));
        Checks.same("as many as there are", 1, house.join(0, 1499, 2, 2));
        Checks.same("the last one", 1499 & 255, house.byteAt(2, 0));
        Checks.refused("from behind the last one", IndexOutOfBoundsException.class, house, () -> house.join(0, 1500, 0, 2));
        house.cut(0, 750);
        Checks.same("itself, as it was", 750, house.join(0, 0, Integer.MAX_VALUE, 0));
        for (int i = 0; i < 750; i++) {
            Checks.same("doubled", house.byteAt(0, i), house.byteAt(0, 750 + i));
        }
        house.cut(0, 751);
        Checks.refused("itself, too long by 2", UnsupportedOperationException.class, house, () -> house.join(0, 0, 751, 0));
        Checks.same("itself, from its second byte on", 749, house.join(0, 1, 749, 0));
        Checks.same("just full", 1500, house.size(2, 0, 0));
    }

    /** "a file that is written gets the bytes in place of those it had". */
    private static void writtenInPlace() {
        PictureCodingHouse house = filled(1500);
        Checks.same("shorter than before", 8, house.album(0));
        Checks.same("shorter than before", 8, house.size(2, 0, 0));
        house.picture(0, 1, 1);
        Checks.same("longer than before", 28, house.lines(0, 1, 0, 0, 0, 0));
        Checks.same("longer than before", 255, house.byteAt(0, 0));
        Checks.same("packed into itself", 13 + 28, house.pack(0, 0, 0));
        Checks.same("unpacked into itself", 28, house.unpack(0, 0));
        Checks.same("unpacked into itself", 28, house.size(2, 0, 0));
        house.cut(1, 0);
        for (int i = 0; i < 1208; i++) {
            house.feed(1, 3);
        }
        Checks.sameFault("one that is broken", house, house.unpack(1, 0), 1, 0);
        Checks.same("the file stays", 28, house.size(2, 0, 0));
    }

    // ---- WORK

    private static PictureCodingHouse worked(int amount) {
        PictureCodingHouse house = new PictureCodingHouse();
        house.picture(0, 2, 2);
        house.sheet(0, 2, 2);
        while (house.told(0) < amount) {
            house.album(11);
        }
        return house;
    }

    private interface Work {
        void run(PictureCodingHouse house);
    }

    private static final Work[] WORKS = {
        h -> h.lines(0, 1, 0, 0, 0, 0), h -> h.unline(0, 0), h -> h.waves(0, 0, 0), h -> h.unwave(0, 0, 0),
        h -> h.wave(0, 0, 0), h -> h.chunks(0, 0), h -> h.unchunk(0, 0), h -> h.pack(0, 0, 0), h -> h.unpack(0, 0),
        h -> h.greys(0, 1, 0), h -> h.ungrey(0, 0), h -> h.text(0, 0, 0, 0), h -> h.untext(0, 0),
        h -> h.book(0, 1, 0, 0, 0), h -> h.unbook(0, 0, 0), h -> h.album(0)};

    /** "300 in all can be done": the last one, and the first one that is too many. */
    private static void lastWork() {
        for (int i = 0; i < WORKS.length; i++) {
            Work work = WORKS[i];
            PictureCodingHouse house = worked(299);
            work.run(house);
            Checks.same("the 300th, call " + i, 300, house.told(0));
            house.picture(0, 2, 2);
            Checks.refused("the 301st, call " + i, UnsupportedOperationException.class, house, () -> work.run(house));
        }
        PictureCodingHouse house = worked(291);
        Checks.same("the last nine", 0, house.batch(1, 1, 2, 0));
        Checks.same("the last nine", 300, house.told(0));
        for (int done : new int[] {292, 299, 300}) {
            PictureCodingHouse few = worked(done);
            Checks.refused("fewer than nine", UnsupportedOperationException.class, few, () -> few.batch(1, 1, 2, 0));
        }
        PictureCodingHouse eight = worked(292);
        eight.wave(0, 0, 0);
        Checks.same("one is left behind a batch that threw", 293, eight.told(0));
    }

    /** "a call that is told WORK, and does not throw, is one, whatever it answers". */
    private static void workWhateverItAnswers() {
        PictureCodingHouse house = new PictureCodingHouse();
        house.sheet(0, 24, 24);
        house.ink(0, 0, 0, 9, true);
        Checks.same("no text", -1, house.text(0, 0, 0, 0));
        Checks.same("no text", 1, house.told(0));
        for (int s = 0; s < 4; s++) {
            house.sheet(s, 24, 24);
        }
        Checks.same("no book", -1, house.book(0, 4, 0, 1, 0));
        Checks.same("no book", 2, house.told(0));
        Checks.same("no file", 0, house.size(2, 0, 0));
        house.picture(0, 1, 1);
        house.shape(0, 0, 0, 1, false);
        Checks.same("no wave", 100000, house.wave(0, 0, 0));
        Checks.same("no wave", 3, house.told(0));
        IntSupplier[] readings = readings(house);
        for (int i = 0; i < readings.length; i++) {
            Checks.holds("a fault", readings[i].getAsInt() < 0);
            Checks.same("a fault", 4 + i, house.told(0));
        }
        house.need(0, 0, 1, 1);
        house.need(1, 0, 0, 1);
        Checks.same("a batch that is stuck", -2, house.batch(2, 1, 2, 0));
        Checks.same("is nine", 4 + readings.length - 1 + 9, house.told(0));
        int done = house.told(0);
        house.clear();
        Checks.same("none is given back", done, house.told(0));
    }

    private static IntSupplier[] readings(PictureCodingHouse house) {
        return new IntSupplier[] {() -> house.unline(0, 1), () -> house.unwave(0, 60000, 1), () -> house.unchunk(0, 1),
            () -> house.unpack(0, 1), () -> house.ungrey(0, 1), () -> house.untext(0, 1), () -> house.unbook(0, 0, 1)};
    }

    private static void callsThatAreNoWork() {
        PictureCodingHouse house = worked(300);
        house.picture(1, 4, 4);
        house.sheet(1, 4, 4);
        Work[] calls = {h -> h.picture(2, 1, 1), h -> h.put(1, 0, 0, 1, 1), h -> h.shape(1, 0, 0, 1, false),
            h -> h.at(1, 0, 0), h -> h.isInside(1, 0, 0), h -> h.copy(3, 1), h -> h.sheet(2, 1, 1),
            h -> h.ink(1, 0, 0, 1, true), h -> h.isDark(1, 0, 0), h -> h.apart(1, 1), h -> h.feed(0, 1),
            h -> h.byteAt(0, 0), h -> h.alter(0, 0, 2), h -> h.join(0, 0, 1, 1), h -> h.cut(0, 0),
            h -> h.halftone(1, 2, 3), h -> h.shade(1, 2, 4), h -> h.parts(1, 1), h -> h.fault(0), h -> h.place(1, 0, 0),
            h -> h.turn(1), h -> h.crop(37, 0, 3, 40), h -> h.near(0), h -> h.tile(0, 0), h -> h.shown(0, 0),
            h -> h.render(0, 0, 1, 1, 5), h -> h.swap(), h -> h.attach(0), h -> h.need(0, 0, 1, 1), h -> h.free(0),
            h -> h.failing(0, 0, 0, 1), h -> h.stop(0), h -> h.waited(0, 0), h -> h.size(0, 0, 0), h -> h.told(0),
            h -> h.clear()};
        for (int i = 0; i < calls.length; i++) {
            calls[i].run(house);
            Checks.same("call " + i + " is no work", 300, house.told(0));
        }
    }

    // ---- FAULTS

    /** "of the latest such call, 0 and NONE if nothing was wrong in it (or before any)". */
    private static void faultOfTheLatest() {
        PictureCodingHouse house = new PictureCodingHouse();
        Checks.noFault("before any", house);
        house.picture(0, 2, 2);
        house.lines(0, 1, 0, 0, 0, 1);
        house.feed(1, 0);
        int behind = house.size(2, 1, 0) - 1;
        Checks.sameFault("a place above 0", house, house.unline(1, 3), 9, behind);
        Checks.same("answers -1 less its place", -1 - behind, house.unline(1, 3));
        house.lines(0, 1, 0, 0, 0, 2);
        house.halftone(0, 1, 0);
        house.feed(3, 3);
        house.wave(0, 0, 0);
        Checks.same("other calls leave the fault", 9, house.fault(0));
        Checks.same("other calls leave its place", behind, house.fault(1));
        Checks.refused("one that throws leaves it", IndexOutOfBoundsException.class, house, () -> house.unline(12, 0));
        Checks.same("one that is right", 1, house.unline(2, 3));
        Checks.noFault("one that is right", house);
        Checks.sameFault("place 0", house, house.unline(0, 3), 1, 0);
        house.clear();
        Checks.noFault("cleared", house);
    }

    private static void makeAll(PictureCodingHouse house) {
        house.picture(0, 3, 2);
        house.put(0, 0, 0, 2, 200);
        house.sheet(0, 5, 4);
        house.ink(0, 1, 1, 2, true);
        house.lines(0, 1, 0, 0, 0, 1);
        house.waves(0, 60000, 2);
        house.chunks(0, 3);
        house.pack(1, 9, 4);
        house.greys(0, 2, 5);
        house.text(0, 0, 0, 6);
        house.book(0, 1, 0, 0, 7);
    }

    /** Each reading call: a fault, then none, then a fault again, and nothing changed by it. */
    private static void faultsOfEach() {
        PictureCodingHouse house = new PictureCodingHouse();
        makeAll(house);
        int lines = house.size(2, 1, 0);
        int[] numbers = {1, 1, 1, 1, 1, 1, 1};
        int[] places = {0, 0, 0, 0, 0, 0, 0};
        IntSupplier[] wrong = readings(house);
        IntSupplier[] right = {() -> house.unline(1, 1), () -> house.unwave(2, 60000, 1), () -> house.unchunk(3, 1),
            () -> house.unpack(4, 8), () -> house.ungrey(5, 1), () -> house.untext(6, 1), () -> house.unbook(7, 0, 1)};
        int[] answers = {1, -2, 3, lines, 6, 1, 1};
        for (int i = 0; i < wrong.length; i++) {
            Checks.broken("empty, call " + i, house, numbers[i], places[i], wrong[i]);
            int answer = right[i].getAsInt();
            Checks.holds("right, call " + i, answers[i] == -2 ? answer > 13 : answer == answers[i]);
            Checks.noFault("right, call " + i, house);
            Checks.broken("empty again, call " + i, house, numbers[i], places[i], wrong[i]);
        }
    }

    /** "Calls that take samples of a picture as greys take also those that are not INSIDE". */
    private static void samplesOutside() {
        PictureCodingHouse house = new PictureCodingHouse();
        house.picture(0, 2, 1);
        house.put(0, 0, 0, 2, 90);
        house.copy(1, 0);
        house.shape(1, 0, 0, 2, false);
        house.lines(0, 1, 0, 0, 0, 0);
        house.lines(1, 1, 0, 0, 0, 1);
        Checks.same("lines", Checks.file(house, 0), Checks.file(house, 1));
        Checks.same("unline", 1, house.unline(1, 2));
        Checks.same("unline is wholly inside", 2, house.size(0, 2, 2));
        house.chunks(1, 1);
        Checks.same("unchunk", 3, house.unchunk(1, 3));
        Checks.samePicture("chunks", house, 3, new int[][] {{90, 90}});
        Checks.same("with the shape", 0, house.size(0, 3, 2));
        Checks.same("halftones are told otherwise", 0, house.halftone(1, 2, 0));
        house.greys(1, 2, 1);
        house.ungrey(1, 4);
        Checks.samePicture("greys are told otherwise", house, 4, new int[][] {{255, 255}});
        house.waves(1, 60000, 1);
        house.unwave(1, 60000, 5);
        Checks.samePicture("waves are told otherwise", house, 5, new int[][] {{0, 0}});
    }

    private static void sizesOfNothing() {
        PictureCodingHouse house = new PictureCodingHouse();
        house.picture(0, 5, 6);
        house.sheet(0, 7, 8);
        for (int what = 0; what < 3; what++) {
            Checks.same("picture that is not there", what == 2 ? 0 : -1, house.size(0, 7, what));
            Checks.same("sheet that is not there", what == 2 ? 0 : -1, house.size(1, 3, what));
            Checks.same("picture", new int[] {5, 6, 30}[what], house.size(0, 0, what));
            Checks.same("sheet", new int[] {7, 8, 0}[what], house.size(1, 0, what));
        }
        house.copy(0, 1);
        Checks.same("not there any more", 0, house.size(0, 0, 2));
        Checks.same("not there any more", -1, house.size(0, 0, 0));
        Checks.same("an empty file", 0, house.size(2, 11, 0));
    }

    /** "All is as at first": also what can be told only by doing something. */
    private static void clearedWhole() {
        PictureCodingHouse house = new PictureCodingHouse();
        String first = Checks.things(house);
        makeAll(house);
        house.unline(0, 0);
        house.place(0, 0, 0);
        house.crop(0, 0, 30, 20);
        house.turn(3);
        house.swap();
        house.place(0, 3, 3);
        house.crop(0, 0, 11, 12);
        house.turn(5);
        for (int i = 0; i < 6; i++) {
            house.need(7, 0, 0, 1);
        }
        for (int i = 0; i < 8; i++) {
            house.failing(0, 7, 0, 9);
        }
        house.stop(7);
        Checks.same("no worker lives", -1, house.batch(1, 1, 0, 0));
        house.stop(3);
        Checks.same("stopped", 1, house.batch(1, 1, 0, 0));
        Checks.same("refused", -1, house.crop(house.tile(0, 0) + 1, 0, 2, 11));
        int work = house.told(0);
        house.clear();
        Checks.holds("all is as at first", first.equals(Checks.things(house)));
        Checks.same("but for work", work, house.told(0));
        Checks.noFault("no fault", house);
        Checks.same("the way of this album", 0, house.turn(0));
        Checks.same("the other has no tiles", 0, house.swap());
        Checks.same("the way of the other album", 0, house.turn(0));
        Checks.same("no needs", 0, house.free(7));
        Checks.same("no failings", 1, house.failing(0, 7, 0, 1));
        Checks.same("no stop", -1, house.stop(-1));
        house.clear();
        Checks.same("no failing in a batch", 0, house.batch(1, 1, 0, 0));
        Checks.same("no need in a batch", 0, house.told(11));
    }
}
