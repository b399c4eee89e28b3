import java.util.ArrayList;
import java.util.List;
import java.util.function.Consumer;

/**
 * Promises 2 to 20, and 1 THE HOUSE: each number that a call takes, on both sides of its bounds; which exception is
 * the first where several could be; and nothing changed behind a call that throws.
 */
public final class CallEdgesTest {
    private static final Class<?> INDEX = IndexOutOfBoundsException.class;
    private static final Class<?> STATE = IllegalStateException.class;
    private static final Class<?> ARGUMENT = IllegalArgumentException.class;
    private static final Class<?> SUPPORT = UnsupportedOperationException.class;
    private static final int LEAST = Integer.MIN_VALUE;
    private static final int MOST = Integer.MAX_VALUE;

    public static void main(String[] args) {
        pictures();
        sheets();
        files();
        lines();
        waves();
        chunksAndPacks();
        halftones();
        texts();
        books();
        albums();
        batches();
        told();
        twoStatesOfAnAlbum();
        Checks.end();
    }

    private interface Call {
        void run(PictureCodingHouse house, int[] a);
    }

    /** Something that makes a call throw: numbers that an argument may not be, or what the house is like. */
    private static final class Wrong {
        final Class<?> due;
        final int argument;
        final int[] values;
        final Consumer<PictureCodingHouse> change;
        int noPicture = -1;
        int noSheet = -1;

        Wrong(Class<?> due, int argument, int[] values, Consumer<PictureCodingHouse> change) {
            this.due = due;
            this.argument = argument;
            this.values = values;
            this.change = change;
        }

        boolean goesWith(Wrong other) {
            return argument < 0 ? other.argument >= 0 || change == null || other.change == null
                    || other.due == SUPPORT && other.isWork : argument != other.argument;
        }

        boolean isWork;
    }

    /** A call with numbers that may be, and all that is wrong with it, in the order in which it is looked at. */
    private static final class Face {
        final String name;
        final int[] good;
        final Call call;
        final List<Wrong> wrongs = new ArrayList<>();
        final List<int[]> may = new ArrayList<>();

        Face(String name, Call call, int... good) {
            this.name = name;
            this.call = call;
            this.good = good;
            may.add(good);
        }

        Face may(int argument, int... values) {
            for (int value : values) {
                may.add(Checks.altered(good, argument, value));
            }
            return this;
        }

        Face wrong(Class<?> due, int argument, int... values) {
            wrongs.add(new Wrong(due, argument, values, null));
            return this;
        }

        Face bounds(Class<?> due, int argument, int least, int most) {
            may(argument, least, most);
            return most == MOST ? wrong(due, argument, least - 1, LEAST)
                    : wrong(due, argument, least - 1, most + 1, LEAST, MOST);
        }

        Face index(int argument, int count) {
            return bounds(INDEX, argument, 0, count - 1);
        }

        Face argument(int argument, int least, int most) {
            return bounds(ARGUMENT, argument, least, most);
        }

        Face noPicture(int k) {
            Wrong wrong = new Wrong(STATE, -1, null, null);
            wrong.noPicture = k;
            wrongs.add(wrong);
            return this;
        }

        Face noSheet(int s) {
            Wrong wrong = new Wrong(STATE, -1, null, null);
            wrong.noSheet = s;
            wrongs.add(wrong);
            return this;
        }

        Face when(Class<?> due, Consumer<PictureCodingHouse> change) {
            wrongs.add(new Wrong(due, -1, null, change));
            return this;
        }

        Face noWork() {
            return workLeft(0);
        }

        Face workLeft(int left) {
            Wrong wrong = new Wrong(SUPPORT, -1, null, house -> {
                while (house.told(0) < 300 - left) {
                    house.album(11);
                }
            });
            wrong.isWork = true;
            wrongs.add(wrong);
            return this;
        }

        void check() {
            for (int[] a : may) {
                PictureCodingHouse house = ready(-1, -1);
                Class<?> got = null;
                try {
                    call.run(house, a);
                } catch (RuntimeException e) {
                    got = e.getClass();
                }
                Checks.holds(text(a) + " may be, but throws " + got, got == null);
            }
            for (int i = 0; i < wrongs.size(); i++) {
                checkWrong(wrongs.get(i), wrongs.get(i));
                for (int j = i + 1; j < wrongs.size(); j++) {
                    if (wrongs.get(i).goesWith(wrongs.get(j))) {
                        checkWrong(wrongs.get(i), wrongs.get(j));
                    }
                }
            }
        }

        /** Both at once: the exception is that of the first one. */
        private void checkWrong(Wrong first, Wrong second) {
            int[] values = first.argument >= 0 ? first.values : new int[] {0};
            for (int value : values) {
                PictureCodingHouse house = ready(Math.max(first.noPicture, second.noPicture),
                        Math.max(first.noSheet, second.noSheet));
                int[] a = good.clone();
                for (Wrong wrong : first == second ? List.of(first) : List.of(second, first)) {
                    if (wrong.change != null) {
                        wrong.change.accept(house);
                    }
                    if (wrong.argument >= 0) {
                        a[wrong.argument] = wrong == first ? value : wrong.values[0];
                    }
                }
                Checks.refused(text(a) + ", wrong " + wrongs.indexOf(first) + " and " + wrongs.indexOf(second),
                        first.due, house, () -> call.run(house, a));
            }
        }

        private String text(int[] a) {
            return name + java.util.Arrays.toString(a);
        }
    }

    /** A house where all is THERE, but for a picture and a sheet: every call has something to do. */
    private static PictureCodingHouse ready(int noPicture, int noSheet) {
        PictureCodingHouse house = new PictureCodingHouse();
        for (int k = 0; k < 8; k++) {
            if (k != noPicture) {
                house.picture(k, 4, 4);
                house.put(k, 0, 1, 4, 10 * k + 5);
                house.put(k, 1, 2, 2, 200);
                house.shape(k, 3, 3, 1, false);
            }
        }
        for (int s = 0; s < 4; s++) {
            if (s != noSheet) {
                house.sheet(s, 6, 6);
                house.ink(s, 1, 1, 2, true);
                house.ink(s, 4, 5, 1, true);
            }
        }
        house.batch(3, 5, 2, 0);
        for (int f = 0; f < 12; f++) {
            Checks.load(house, f, new int[] {1, 2, f});
        }
        int shown = noPicture == 0 ? 1 : 0;
        house.place(shown, 20, 20);
        house.swap();
        house.place(shown, 20, 20);
        house.crop(21, 0, 10, 10);
        house.unline(11, 0);
        return house;
    }

    private static Consumer<PictureCodingHouse> filled(int f, int bytes) {
        return house -> {
            while (house.size(2, f, 0) < bytes) {
                house.join(f, 0, bytes - house.size(2, f, 0), f);
            }
        };
    }

    private static void pictures() {
        new Face("picture", (h, a) -> h.picture(a[0], a[1], a[2]), 3, 4, 4)
                .index(0, 8).argument(1, 1, 12).argument(2, 1, 12).check();
        new Face("put", (h, a) -> h.put(a[0], a[1], a[2], a[3], a[4]), 3, 1, 1, 2, 9)
                .index(0, 8).noPicture(3).index(1, 4).index(2, 4).argument(3, 1, MOST).argument(4, 0, 255).check();
        for (boolean inside : new boolean[] {false, true}) {
            new Face("shape", (h, a) -> h.shape(a[0], a[1], a[2], a[3], inside), 3, 1, 1, 2)
                    .index(0, 8).noPicture(3).index(1, 4).index(2, 4).argument(3, 1, MOST).check();
        }
        new Face("at", (h, a) -> h.at(a[0], a[1], a[2]), 3, 1, 1)
                .index(0, 8).noPicture(3).index(1, 4).index(2, 4).check();
        new Face("isInside", (h, a) -> h.isInside(a[0], a[1], a[2]), 3, 1, 1)
                .index(0, 8).noPicture(3).index(1, 4).index(2, 4).check();
        new Face("copy", (h, a) -> h.copy(a[0], a[1]), 3, 4).index(0, 8).index(1, 8).check();
    }

    private static void sheets() {
        new Face("sheet", (h, a) -> h.sheet(a[0], a[1], a[2]), 2, 4, 4)
                .index(0, 4).argument(1, 1, 24).argument(2, 1, 24).check();
        for (boolean dark : new boolean[] {false, true}) {
            new Face("ink", (h, a) -> h.ink(a[0], a[1], a[2], a[3], dark), 2, 1, 1, 2)
                    .index(0, 4).noSheet(2).index(1, 6).index(2, 6).argument(3, 1, MOST).check();
        }
        new Face("isDark", (h, a) -> h.isDark(a[0], a[1], a[2]), 2, 1, 1)
                .index(0, 4).noSheet(2).index(1, 6).index(2, 6).check();
        new Face("apart", (h, a) -> h.apart(a[0], a[1]), 1, 2)
                .index(0, 4).index(1, 4).noSheet(1).noSheet(2)
                .when(STATE, h -> h.sheet(2, 6, 5)).when(STATE, h -> h.sheet(2, 5, 6)).check();
    }

    private static void files() {
        new Face("byteAt", (h, a) -> h.byteAt(a[0], a[1]), 5, 1).index(0, 12).index(1, 3).check();
        new Face("feed", (h, a) -> h.feed(a[0], a[1]), 5, 9)
                .index(0, 12).argument(1, 0, 255).when(SUPPORT, filled(5, 1500)).check();
        new Face("alter", (h, a) -> h.alter(a[0], a[1], a[2]), 5, 1, 9)
                .index(0, 12).index(1, 3).argument(2, 0, 255).check();
        new Face("cut", (h, a) -> h.cut(a[0], a[1]), 5, 2).index(0, 12).argument(1, 0, MOST).check();
        new Face("join", (h, a) -> h.join(a[0], a[1], a[2], a[3]), 5, 1, 1, 6)
                .index(0, 12).index(3, 12).index(1, 3).argument(2, 0, MOST).when(SUPPORT, filled(6, 1500)).check();
        new Face("join of two bytes", (h, a) -> h.join(a[0], a[1], a[2], a[3]), 5, 1, 2, 6)
                .when(SUPPORT, filled(6, 1499)).check();
        new Face("join of an empty file", (h, a) -> h.join(a[0], a[1], a[2], a[3]), 5, 0, 0, 6)
                .when(INDEX, h -> h.cut(5, 0)).wrong(ARGUMENT, 2, -1).check();
    }

    private static void lines() {
        new Face("lines", (h, a) -> h.lines(a[0], a[1], a[2], a[3], a[4], a[5]), 2, 2, 1, 1, 3, 5)
                .wrong(INDEX, 0, -1, 8, LEAST, MOST).index(5, 12).argument(1, 1, 3)
                .may(0, 0, 6).wrong(INDEX, 0, 7)
                .noPicture(2).noPicture(3)
                .when(STATE, h -> h.picture(3, 4, 5)).when(STATE, h -> h.picture(3, 5, 4))
                .argument(2, 0, 2).argument(3, 0, 3).argument(4, 0, 12).noWork().check();
        new Face("lines of three", (h, a) -> h.lines(a[0], a[1], a[2], a[3], a[4], a[5]), 2, 3, 0, 0, 0, 5)
                .may(0, 0, 5).wrong(INDEX, 0, 6, 7)
                .noPicture(4).when(STATE, h -> h.picture(4, 3, 4)).wrong(ARGUMENT, 2, 3).check();
        new Face("lines of one", (h, a) -> h.lines(a[0], a[1], a[2], a[3], a[4], a[5]), 2, 1, 0, 0, 0, 5)
                .index(0, 8).noPicture(2).noWork().check();
        new Face("unline", (h, a) -> h.unline(a[0], a[1]), 5, 3).index(0, 12).index(1, 8).noWork().check();
    }

    private static void waves() {
        new Face("waves", (h, a) -> h.waves(a[0], a[1], a[2]), 3, 100, 5)
                .index(0, 8).index(2, 12).noPicture(3).argument(1, 0, 60000).noWork().check();
        new Face("unwave", (h, a) -> h.unwave(a[0], a[1], a[2]), 5, 100, 3)
                .index(0, 12).index(2, 8).argument(1, 0, 60000).noWork().check();
        new Face("wave", (h, a) -> h.wave(a[0], a[1], a[2]), 3, 1, 1)
                .index(0, 8).noPicture(3).index(1, 4).index(2, 4).noWork().check();
    }

    private static void chunksAndPacks() {
        new Face("chunks", (h, a) -> h.chunks(a[0], a[1]), 3, 5)
                .index(0, 8).index(1, 12).noPicture(3).noWork().check();
        new Face("unchunk", (h, a) -> h.unchunk(a[0], a[1]), 5, 3).index(0, 12).index(1, 8).noWork().check();
        new Face("pack", (h, a) -> h.pack(a[0], a[1], a[2]), 5, 3, 6)
                .index(0, 12).index(2, 12).when(STATE, filled(5, 513)).argument(1, 0, 9).noWork().check();
        new Face("unpack", (h, a) -> h.unpack(a[0], a[1]), 5, 6).index(0, 12).index(1, 12).noWork().check();
    }

    private static void halftones() {
        new Face("halftone", (h, a) -> h.halftone(a[0], a[1], a[2]), 3, 1, 2)
                .index(0, 8).index(2, 4).noPicture(3).argument(1, 1, 2).check();
        new Face("shade", (h, a) -> h.shade(a[0], a[1], a[2]), 2, 1, 3)
                .index(0, 4).index(2, 8).noSheet(2).argument(1, 1, 3)
                .when(STATE, h -> h.sheet(2, 13, 1)).when(STATE, h -> h.sheet(2, 1, 13)).check();
        new Face("shade by 2", (h, a) -> h.shade(a[0], a[1], a[2]), 2, 2, 3)
                .index(0, 4).index(2, 8).noSheet(2).wrong(ARGUMENT, 1, 0, 4)
                .when(STATE, h -> h.sheet(2, 5, 6)).when(STATE, h -> h.sheet(2, 6, 5)).check();
        new Face("shade by 3", (h, a) -> h.shade(a[0], a[1], a[2]), 2, 3, 3)
                .when(STATE, h -> h.sheet(2, 5, 6)).when(STATE, h -> h.sheet(2, 6, 4)).check();
        new Face("greys", (h, a) -> h.greys(a[0], a[1], a[2]), 3, 1, 5)
                .index(0, 8).index(2, 12).noPicture(3).argument(1, 1, 2).noWork().check();
        new Face("ungrey", (h, a) -> h.ungrey(a[0], a[1]), 5, 3).index(0, 12).index(1, 8).noWork().check();
    }

    private static void texts() {
        new Face("parts", (h, a) -> h.parts(a[0], a[1]), 2, 0).index(0, 4).noSheet(2).argument(1, 0, 1).check();
        new Face("text", (h, a) -> h.text(a[0], a[1], a[2], a[3]), 2, 0, 3, 5)
                .index(0, 4).index(3, 12).noSheet(2).argument(1, 0, 1).argument(2, 0, 8).noWork().check();
        new Face("untext", (h, a) -> h.untext(a[0], a[1]), 5, 2).index(0, 12).index(1, 4).noWork().check();
    }

    private static void books() {
        new Face("book", (h, a) -> h.book(a[0], a[1], a[2], a[3], a[4]), 1, 2, 0, 4, 5)
                .wrong(INDEX, 0, -1, 4, LEAST, MOST).index(4, 12)
                .may(1, 1, 3).wrong(ARGUMENT, 1, 0, 5, LEAST, MOST)
                .may(0, 0, 2).wrong(INDEX, 0, 3).wrong(INDEX, 1, 4)
                .noSheet(1).noSheet(2)
                .argument(2, 0, 2).argument(3, 0, 24).noWork().check();
        new Face("book of four", (h, a) -> h.book(a[0], a[1], a[2], a[3], a[4]), 0, 4, 0, 0, 5)
                .wrong(INDEX, 0, 1, 2, 3).noSheet(0).noSheet(3).wrong(ARGUMENT, 2, 3).check();
        new Face("book of one", (h, a) -> h.book(a[0], a[1], a[2], a[3], a[4]), 3, 1, 0, 0, 5)
                .wrong(ARGUMENT, 1, 0).wrong(INDEX, 1, 2).noSheet(3).noWork().check();
        new Face("unbook", (h, a) -> h.unbook(a[0], a[1], a[2]), 5, 1, 2)
                .index(0, 12).index(2, 4).argument(1, 0, 2).noWork().check();
    }

    private static void fortyTiles(PictureCodingHouse house) {
        for (int i = 0; i < 100 && house.told(3) < 40; i++) {
            int x = i % 10 * 4;
            int y = i / 10 * 4;
            if (y >= 8 && (x != 20 || y != 20)) {
                house.place(4, x, y);
            }
        }
    }

    private static void albums() {
        new Face("place", (h, a) -> h.place(a[0], a[1], a[2]), 3, 0, 0)
                .index(0, 8).noPicture(3).argument(1, 0, 36).argument(2, 0, 36)
                .when(STATE, h -> h.place(4, 3, 3)).when(SUPPORT, CallEdgesTest::fortyTiles).check();
        new Face("turn", (h, a) -> h.turn(a[0]), 3).argument(0, 0, 7).check();
        new Face("crop", (h, a) -> h.crop(a[0], a[1], a[2], a[3]), 5, 5, 10, 10)
                .argument(0, 0, 30).argument(1, 0, 30).argument(2, 1, 35).argument(3, 1, 35).check();
        new Face("crop of all", (h, a) -> h.crop(a[0], a[1], a[2], a[3]), 0, 0, 40, 40)
                .wrong(ARGUMENT, 0, -1, 1).wrong(ARGUMENT, 1, -1, 1).wrong(ARGUMENT, 2, 0, 41)
                .wrong(ARGUMENT, 3, 0, 41).check();
        new Face("near", (h, a) -> h.near(a[0]), 1).index(0, 4)
                .when(STATE, h -> h.turn(0)).when(STATE, h -> h.swap()).when(STATE, h -> h.attach(0))
                .when(STATE, h -> h.place(4, 0, 0)).when(STATE, h -> h.crop(0, 0, 40, 40))
                .when(STATE, h -> h.clear()).check();
        new Face("attach", (h, a) -> h.attach(a[0]), 2).index(0, 4)
                .when(STATE, h -> h.crop(0, 0, 40, 39)).when(SUPPORT, h -> {
                    for (int i = 0; i < 9; i++) {
                        h.attach(2);
                    }
                }).check();
        new Face("attach above", (h, a) -> h.attach(a[0]), 1)
                .when(STATE, h -> h.crop(0, 0, 39, 40)).when(SUPPORT, h -> {
                    for (int i = 0; i < 9; i++) {
                        h.attach(3);
                    }
                }).check();
        new Face("tile", (h, a) -> h.tile(a[0], a[1]), 0, 3).index(0, 1).argument(1, 0, 7).check();
        new Face("shown", (h, a) -> h.shown(a[0], a[1]), 1, 1).index(0, 40).index(1, 40).check();
        new Face("render", (h, a) -> h.render(a[0], a[1], a[2], a[3], a[4]), 1, 1, 3, 3, 5)
                .index(4, 8).argument(0, 0, 37).argument(1, 0, 37).argument(2, 1, 12).argument(3, 1, 12).check();
        new Face("render at the end", (h, a) -> h.render(a[0], a[1], a[2], a[3], a[4]), 30, 31, 10, 9, 5)
                .wrong(ARGUMENT, 0, 31).wrong(ARGUMENT, 1, 32).wrong(ARGUMENT, 2, 11).wrong(ARGUMENT, 3, 10).check();
        new Face("album", (h, a) -> h.album(a[0]), 5).index(0, 12).noWork().check();
    }

    private static void batches() {
        new Face("need", (h, a) -> h.need(a[0], a[1], a[2], a[3]), 3, 2, 4, 5)
                .index(0, 8).index(2, 8).argument(1, 0, 19).argument(3, 1, 20).wrong(ARGUMENT, 2, 3)
                .when(SUPPORT, h -> {
                    for (int i = 0; i < 6; i++) {
                        h.need(3, 0, 1, 1);
                    }
                }).check();
        new Face("free", (h, a) -> h.free(a[0]), 3).index(0, 8).check();
        new Face("failing", (h, a) -> h.failing(a[0], a[1], a[2], a[3]), 2, 3, 4, 5)
                .index(1, 8).argument(0, 0, 15).argument(2, 0, 19).argument(3, 1, 9)
                .when(SUPPORT, h -> {
                    for (int i = 0; i < 8; i++) {
                        h.failing(0, 0, 0, 1);
                    }
                }).check();
        new Face("stop", (h, a) -> h.stop(a[0]), 3).bounds(INDEX, 0, -1, 7).check();
        int[][] forms = {{0, 0, 3}, {1, 0, 60000}, {2, 0, 0}, {3, 1, 2}};
        for (int[] form : forms) {
            new Face("batch", (h, a) -> h.batch(a[0], 9, a[1], a[2]), 3, form[0], form[1])
                    .argument(0, 1, 16).wrong(ARGUMENT, 1, -1, 4, LEAST, MOST).argument(2, form[1], form[2])
                    .workLeft(8).check();
        }
        new Face("value", (h, a) -> h.value(a[0]), 3).index(0, 8).when(STATE, h -> h.clear()).check();
        new Face("finished", (h, a) -> h.finished(a[0]), 3).index(0, 8).when(INDEX, h -> h.clear()).check();
        new Face("waited", (h, a) -> h.waited(a[0], a[1]), 3, 4).index(0, 8).index(1, 8).check();
    }

    private static void told() {
        new Face("fault", (h, a) -> h.fault(a[0]), 0).argument(0, 0, 1).check();
        new Face("told", (h, a) -> h.told(a[0]), 5).argument(0, 0, 16).check();
        new Face("size of a picture", (h, a) -> h.size(0, a[0], a[1]), 3, 0).index(0, 8).argument(1, 0, 2).check();
        new Face("size of a sheet", (h, a) -> h.size(1, a[0], a[1]), 2, 0).index(0, 4).argument(1, 0, 2).check();
        new Face("size of a file", (h, a) -> h.size(2, a[0], a[1]), 5, 0).index(0, 12).argument(1, 0, 0).check();
        // by another sort nothing is counted, whatever the number is
        new Face("size of another sort", (h, a) -> h.size(a[0], a[1], a[2]), 0, 3, 0)
                .wrong(ARGUMENT, 0, -1, 3, LEAST, MOST).wrong(INDEX, 1, -1, 8, LEAST, MOST)
                .wrong(ARGUMENT, 2, -1, 3).check();
    }

    /** Two things about the house that could make a call throw. */
    private static void twoStatesOfAnAlbum() {
        PictureCodingHouse house = ready(-1, -1);
        fortyTiles(house);
        Checks.same("forty tiles", 40, house.told(3));
        Checks.refused("a sample in common, and forty tiles", STATE, house, () -> house.place(4, 20, 20));
        Checks.refused("forty tiles", SUPPORT, house, () -> house.place(4, 0, 0));
        Checks.refused("no tile more from the other", SUPPORT, house, () -> house.attach(2));
        Checks.same("crop", 40, house.crop(0, 0, 39 + 1, 40));
        PictureCodingHouse wide = ready(-1, -1);
        for (int i = 0; i < 9; i++) {
            wide.attach(2);
        }
        Checks.same("as wide as may be", 400, wide.told(1));
        Checks.refused("too wide", SUPPORT, wide, () -> wide.attach(0));
        Checks.same("crop", 2, wide.crop(0, 0, 400, 39));
        Checks.refused("heights that are not alike, and too wide", STATE, wide, () -> wide.attach(0));
        Checks.refused("widths that are not alike", STATE, wide, () -> wide.attach(3));
    }
}
