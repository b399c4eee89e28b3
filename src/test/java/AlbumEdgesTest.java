import java.util.ArrayList;
import java.util.List;

/** Promises 13 to 16, and 9 ALBUMS: tiles that touch, borders that FIT, the widest album, the last tile. */
public final class AlbumEdgesTest {
    private static final Class<?> STATE = IllegalStateException.class;
    private static final Class<?> ARGUMENT = IllegalArgumentException.class;
    private static final Class<?> SUPPORT = UnsupportedOperationException.class;
    private static final Class<?> INDEX = IndexOutOfBoundsException.class;

    public static void main(String[] args) {
        tilesAtTheBorders();
        tilesThatTouch();
        smallAlbums();
        lastTile();
        turnedSizes();
        wayOfAll();
        bordersThatFit();
        whatIsCroppedAway();
        nearest();
        nearOfTheLatest();
        nearUntilItChanges();
        swaps();
        widestAlbum();
        highestAlbum();
        mostTiles();
        attachedTiles();
        tilesThatAre();
        shownAtTheCorners();
        shownAsItIsNow();
        rendered();
        renderedSizes();
        filesOfAlbums();
        Checks.end();
    }

    /** A house whose picture k is k + 1 wide and 1 high for k from 0 to 6, and picture 7 is 12 by 12. */
    private static PictureCodingHouse house() {
        PictureCodingHouse house = new PictureCodingHouse();
        for (int k = 0; k < 7; k++) {
            house.picture(k, k + 1, 1);
        }
        house.picture(7, 12, 12);
        return house;
    }

    // ---- place

    /** "IllegalArgument: it lies not wholly in the album." */
    private static void tilesAtTheBorders() {
        int[][] may = {{0, 0}, {28, 0}, {0, 28}, {28, 28}};
        for (int[] at : may) {
            PictureCodingHouse h = house();
            Checks.same("in a corner", 0, h.place(7, at[0], at[1]));
            Checks.same("x", at[0], h.tile(0, 0));
            Checks.same("y", at[1], h.tile(0, 1));
        }
        int[][] not = {{-1, 0}, {0, -1}, {29, 0}, {0, 29}, {40, 40}, {Integer.MAX_VALUE, 0}, {0, Integer.MAX_VALUE},
            {Integer.MIN_VALUE, 0}, {0, Integer.MIN_VALUE}};
        for (int[] at : not) {
            PictureCodingHouse h = house();
            Checks.refused("at " + at[0] + " " + at[1], ARGUMENT, h, () -> h.place(7, at[0], at[1]));
        }
    }

    /** "another one has a sample in common with it": those that touch have none. */
    private static void tilesThatTouch() {
        for (int dx = -12; dx <= 12; dx++) {
            for (int dy = -12; dy <= 12; dy++) {
                boolean isApart = Math.abs(dx) == 12 || Math.abs(dy) == 12;
                if (isApart || Math.abs(dx) == 11 || Math.abs(dy) == 11 || dx == 0 && dy == 0) {
                    PictureCodingHouse h = house();
                    h.place(7, 14, 14);
                    int x = 14 + dx;
                    int y = 14 + dy;
                    if (isApart) {
                        Checks.same("touching " + dx + " " + dy, 1, h.place(7, x, y));
                    } else {
                        Checks.refused("in common " + dx + " " + dy, STATE, h, () -> h.place(7, x, y));
                    }
                }
            }
        }
        PictureCodingHouse h = house();
        h.place(7, 14, 14);
        Checks.refused("within another", STATE, h, () -> h.place(0, 20, 20));
        Checks.refused("its first sample", STATE, h, () -> h.place(0, 14, 14));
        Checks.refused("its last sample", STATE, h, () -> h.place(0, 25, 25));
        Checks.same("left of it", 1, h.place(0, 13, 14));
        Checks.same("above it", 2, h.place(0, 14, 13));
        Checks.same("right of it", 3, h.place(0, 26, 25));
        Checks.same("below it", 4, h.place(0, 25, 26));
        Checks.refused("over others", STATE, h, () -> h.place(7, 15, 14));
    }

    private static void smallAlbums() {
        PictureCodingHouse h = house();
        Checks.same("of 12 by 12", 0, h.crop(0, 0, 12, 12));
        Checks.refused("a column farther", ARGUMENT, h, () -> h.place(7, 1, 0));
        Checks.same("just as great", 0, h.place(7, 0, 0));
        PictureCodingHouse small = house();
        small.crop(0, 0, 11, 12);
        Checks.refused("too wide", ARGUMENT, small, () -> small.place(7, 0, 0));
        PictureCodingHouse low = house();
        low.crop(0, 0, 12, 11);
        Checks.refused("too high", ARGUMENT, low, () -> low.place(7, 0, 0));
        PictureCodingHouse one = house();
        Checks.same("of one sample", 0, one.crop(39, 39, 1, 1));
        Checks.same("of one sample", 0, one.place(0, 0, 0));
        Checks.refused("there is no more", STATE, one, () -> one.place(0, 0, 0));
    }

    /** "UnsupportedOperation: there are 40." */
    private static void lastTile() {
        PictureCodingHouse h = house();
        for (int i = 0; i < 39; i++) {
            h.place(0, i, 0);
        }
        Checks.same("the 40th", 39, h.place(0, 39, 0));
        Checks.refused("the 41st", SUPPORT, h, () -> h.place(0, 0, 1));
        Checks.refused("not in the album is looked at first", ARGUMENT, h, () -> h.place(0, 0, 40));
        Checks.refused("a sample in common is looked at first", STATE, h, () -> h.place(0, 0, 0));
        Checks.same("crop", 39, h.crop(1, 0, 39, 40));
        Checks.same("again", 39, h.place(0, 0, 1));
        Checks.refused("again", SUPPORT, h, () -> h.place(0, 0, 2));
    }

    // ---- turn

    /** "tiles, their WAYS, width and height are as they must be". */
    private static void turnedSizes() {
        // a tile of 3 by 1 at (1, 2) of an album of 5 by 4
        int[][] due = {{1, 2, 3, 1, 5, 4}, {1, 1, 1, 3, 4, 5}, {1, 1, 3, 1, 5, 4}, {2, 1, 1, 3, 4, 5},
            {1, 2, 3, 1, 5, 4}, {1, 1, 1, 3, 4, 5}, {1, 1, 3, 1, 5, 4}, {2, 1, 1, 3, 4, 5}};
        for (int way = 0; way < 8; way++) {
            PictureCodingHouse h = house();
            h.crop(0, 0, 5, 4);
            h.place(2, 1, 2);
            Checks.same("way", way, h.turn(way));
            for (int what = 0; what < 4; what++) {
                Checks.same("way " + way + " what " + what, due[way][what], h.tile(0, what));
            }
            Checks.same("width", due[way][4], h.told(1));
            Checks.same("height", due[way][5], h.told(2));
            Checks.same("its way", way, h.tile(0, 4));
            Checks.same("its own width", 3, h.tile(0, 6));
            Checks.same("its own height", 1, h.tile(0, 7));
            Checks.same("its picture", 2, h.tile(0, 5));
        }
        PictureCodingHouse h = house();
        h.crop(0, 0, 6, 4);
        h.place(2, 0, 2);
        h.turn(4);
        Checks.same("mirrored", 3, h.tile(0, 0));
        Checks.refused("way 8", ARGUMENT, h, () -> h.turn(8));
        Checks.refused("way -1", ARGUMENT, h, () -> h.turn(-1));
    }

    /** "the WAY of all that was done so since it was made, joined or swapped". */
    private static void wayOfAll() {
        PictureCodingHouse h = house();
        Checks.same("since it was made", 0, h.turn(0));
        Checks.same("3", 3, h.turn(3));
        Checks.same("3 and 2", 1, h.turn(2));
        h.place(0, 0, 0);
        h.crop(0, 0, 20, 40);
        Checks.same("place and crop do not count", 1, h.turn(0));
        Checks.refused("a call that throws does not count", ARGUMENT, h, () -> h.turn(9));
        Checks.refused("nor does this one", STATE, h, () -> h.attach(1));
        Checks.same("still", 1, h.turn(0));
        Checks.same("mirrored, then turned the other way", 7, h.turn(4));
        h.swap();
        Checks.same("since it was swapped", 0, h.turn(0));
        h.turn(6);
        h.swap();
        Checks.same("since it was swapped back", 0, h.turn(0));
        Checks.same("its tile was turned by the last one alone", 4, h.tile(0, 4));
        PictureCodingHouse j = house();
        j.turn(5);
        j.attach(0);
        Checks.same("since it was joined", 0, j.turn(0));
        j.place(0, 0, 0);
        Checks.same("a tile placed behind turns has way 0", 0, j.tile(0, 4));
    }

    // ---- crop and near

    /** "It FITS if no tile lies on both sides of it": at a tile's sides it does, within it not. */
    private static void bordersThatFit() {
        for (int c = 9; c <= 23; c++) {
            boolean isWithin = c > 10 && c < 22;
            PictureCodingHouse h = house();
            h.place(7, 10, 10);
            int tiles = c <= 10 ? 1 : 0;
            Checks.same("left " + c, isWithin ? -1 : tiles, h.crop(c, 0, 40 - c, 40));
            h = house();
            h.place(7, 10, 10);
            Checks.same("upper " + c, isWithin ? -1 : tiles, h.crop(0, c, 40, 40 - c));
            h = house();
            h.place(7, 10, 10);
            tiles = c >= 22 ? 1 : 0;
            Checks.same("right " + c, isWithin ? -1 : tiles, h.crop(0, 0, c, 40));
            h = house();
            h.place(7, 10, 10);
            Checks.same("lower " + c, isWithin ? -1 : tiles, h.crop(0, 0, 40, c));
            Checks.same("nothing is done", isWithin ? 40 : c, h.told(2));
        }
        // a border goes through the whole album, also beside the rectangle
        PictureCodingHouse h = house();
        h.place(7, 10, 10);
        Checks.same("a tile that is not in the rectangle", -1, h.crop(0, 30, 11, 5));
        Checks.same("tiles", 1, h.told(3));
        Checks.same("the sides of the album fit always", 1, h.crop(0, 0, 40, 40));
    }

    /** "what is outside goes, the others keep their order, and are numbered anew". */
    private static void whatIsCroppedAway() {
        PictureCodingHouse h = house();
        int[][] at = {{5, 5}, {20, 20}, {6, 30}, {30, 6}, {12, 12}, {19, 12}};
        for (int[] one : at) {
            h.place(1, one[0], one[1]);
        }
        Checks.same("crop", 3, h.crop(12, 12, 10, 9));
        int[][] due = {{8, 8}, {0, 0}, {7, 0}};
        for (int t = 0; t < 3; t++) {
            Checks.same("x of " + t, due[t][0], h.tile(t, 0));
            Checks.same("y of " + t, due[t][1], h.tile(t, 1));
        }
        Checks.refused("numbered anew", INDEX, h, () -> h.tile(3, 0));
        Checks.same("width", 10, h.told(1));
        Checks.same("height", 9, h.told(2));
        Checks.same("the next one is behind them", 3, h.place(0, 1, 1));
        Checks.same("crop to one sample", 0, h.crop(5, 5, 1, 1));
        Checks.refused("no sample", ARGUMENT, h, () -> h.crop(0, 0, 0, 1));
        Checks.refused("no sample", ARGUMENT, h, () -> h.crop(0, 0, 1, 0));
        Checks.refused("more than there are", ARGUMENT, h, () -> h.crop(0, 0, 2, 1));
        Checks.refused("more than there are", ARGUMENT, h, () -> h.crop(0, 0, 1, Integer.MAX_VALUE));
        Checks.refused("behind them", ARGUMENT, h, () -> h.crop(1, 0, 1, 1));
    }

    /** "the border that FITS nearest .., of two such the lesser; that itself, if it FITS". */
    private static void nearest() {
        for (int first : new int[] {0, 1, 10, 27, 28}) {
            for (int c = 0; c <= 40; c++) {
                int due = c <= first || c >= first + 12 ? c : c - first <= first + 12 - c ? first : first + 12;
                PictureCodingHouse h = house();
                h.place(7, first, first);
                // a border that does not fit, so that the crop is refused; the other one is looked for
                int within = first + 1;
                if (c < 40) {
                    Checks.same("refused", -1, h.crop(c, within, 40 - c, 40 - within));
                    Checks.same("left " + c + " of " + first, due, h.near(0));
                    Checks.same("right fits", 40, h.near(2));
                    Checks.same("lower fits", 40, h.near(3));
                    Checks.same("refused", -1, h.crop(within, c, 40 - within, 40 - c));
                    Checks.same("upper " + c + " of " + first, due, h.near(1));
                }
                if (c > 0) {
                    Checks.same("refused", -1, h.crop(0, 0, c, within));
                    Checks.same("right " + c + " of " + first, due, h.near(2));
                    Checks.same("left fits", 0, h.near(0));
                    Checks.same("refused", -1, h.crop(0, 0, within, c));
                    Checks.same("lower " + c + " of " + first, due, h.near(3));
                }
            }
        }
        // tiles one behind the other: only the sides of the album fit
        PictureCodingHouse h = house();
        h.crop(0, 0, 12, 40);
        h.place(7, 0, 0);
        for (int c = 1; c < 12; c++) {
            Checks.same("refused", -1, h.crop(c, 20, 12 - c, 1));
            Checks.same("a side of the album, " + c, c <= 6 ? 0 : 12, h.near(0));
        }
    }

    private static void nearOfTheLatest() {
        PictureCodingHouse h = house();
        Checks.refused("before any", STATE, h, () -> h.near(0));
        h.place(7, 10, 10);
        h.crop(12, 0, 1, 40);
        Checks.same("the first one", 10, h.near(0));
        h.crop(20, 0, 1, 40);
        Checks.same("the second one", 22, h.near(0));
        Checks.refused("one that throws is none", ARGUMENT, h, () -> h.crop(0, 0, 41, 1));
        Checks.same("the second one", 22, h.near(0));
        for (int side : new int[] {-1, 4, Integer.MIN_VALUE, Integer.MAX_VALUE}) {
            Checks.refused("side " + side, INDEX, h, () -> h.near(side));
        }
        Checks.same("the latest one did", 1, h.crop(0, 0, 40, 40));
        Checks.refused("the latest one did", STATE, h, () -> h.near(0));
        Checks.refused("a side is looked at first", INDEX, h, () -> h.near(4));
    }

    private interface Change {
        void run(PictureCodingHouse h);
    }

    /** "or THIS one has changed since (place(), turn(), attach(), swap(), clear())", and nothing else. */
    private static void nearUntilItChanges() {
        Change[] changes = {h -> h.place(0, 0, 0), h -> h.turn(0), h -> h.turn(1), h -> h.attach(1), h -> h.swap(),
            h -> h.clear()};
        Change[] others = {h -> h.picture(7, 1, 1), h -> h.copy(7, 0), h -> h.render(10, 10, 5, 5, 6), h -> h.album(0),
            h -> h.tile(0, 0), h -> h.shown(0, 0), h -> h.told(1), h -> h.batch(1, 1, 0, 0), h -> h.near(3)};
        Change[] throwing = {h -> h.place(7, 11, 11), h -> h.turn(8), h -> h.attach(4), h -> h.crop(-1, 0, 1, 1)};
        for (int i = 0; i < changes.length; i++) {
            PictureCodingHouse h = house();
            h.place(7, 10, 10);
            h.crop(12, 0, 1, 40);
            changes[i].run(h);
            Checks.state("change " + i, () -> h.near(0));
            if (i == 4) {
                h.swap();
                Checks.state("swapped back", () -> h.near(0));
            }
        }
        for (int i = 0; i < others.length + throwing.length; i++) {
            PictureCodingHouse h = house();
            h.place(7, 10, 10);
            h.crop(12, 0, 1, 40);
            try {
                (i < others.length ? others[i] : throwing[i - others.length]).run(h);
            } catch (RuntimeException e) {
                Checks.holds("call " + i + " throws", i >= others.length);
            }
            Checks.same("no change, call " + i, 10, h.near(0));
        }
    }

    // ---- swap and attach

    private static void swaps() {
        PictureCodingHouse h = house();
        Checks.same("none", 0, h.swap());
        h.place(0, 0, 0);
        h.crop(0, 0, 7, 9);
        Checks.same("none in the other", 0, h.swap());
        Checks.same("width", 40, h.told(1));
        Checks.same("other width", 7, h.told(4));
        Checks.same("other height", 9, h.told(5));
        Checks.same("other tiles", 1, h.told(6));
        Checks.same("one", 1, h.swap());
        Checks.same("width", 7, h.told(1));
        Checks.same("height", 9, h.told(2));
        Checks.same("the other is as it was", 40, h.told(4));
    }

    /** "it would be more than 400 wide or high": 400 may be, 401 not. */
    private static void widestAlbum() {
        for (int first : new int[] {39, 40}) {
            for (int side : new int[] {0, 2}) {
                PictureCodingHouse h = house();
                for (int i = 0; i < 8; i++) {
                    h.attach(2);
                }
                h.crop(0, 0, 320 + first, 40);
                h.attach(side);
                Checks.same("width", 360 + first, h.told(1));
                if (first == 40) {
                    Checks.refused("440", SUPPORT, h, () -> h.attach(side));
                    h.crop(0, 0, 361, 40);
                    Checks.refused("401", SUPPORT, h, () -> h.attach(side));
                    h.crop(0, 0, 360, 40);
                }
                Checks.same("attach", 0, first == 40 ? h.attach(side) : h.told(3));
                Checks.same("width", first == 40 ? 400 : 399, h.told(1));
                Checks.refused("above it, where the widths are not alike", STATE, h, () -> h.attach(1));
            }
        }
        PictureCodingHouse h = house();
        for (int i = 0; i < 9; i++) {
            h.attach(2);
        }
        h.place(7, 388, 28);
        Checks.same("at the last sample", 0, h.shown(399, 39));
        Checks.refused("behind it", INDEX, h, () -> h.shown(400, 39));
        Checks.refused("below it", INDEX, h, () -> h.shown(399, 40));
        Checks.same("render there", 144, h.render(388, 28, 12, 12, 6));
        Checks.refused("render behind it", ARGUMENT, h, () -> h.render(389, 28, 12, 12, 6));
    }

    private static void highestAlbum() {
        for (int side : new int[] {1, 3}) {
            PictureCodingHouse h = house();
            for (int i = 0; i < 9; i++) {
                h.attach(side);
            }
            Checks.same("height", 400, h.told(2));
            Checks.refused("440", SUPPORT, h, () -> h.attach(side));
            h.crop(0, 0, 40, 361);
            Checks.refused("401", SUPPORT, h, () -> h.attach(side));
            h.crop(0, 0, 40, 360);
            Checks.same("400", 0, h.attach(side));
            Checks.same("height", 400, h.told(2));
            Checks.refused("widths alike, heights not: beside it", STATE, h, () -> h.attach(0));
            Checks.same("crop", 0, h.crop(0, 0, 39, 400));
            Checks.refused("widths are looked at before the height", STATE, h, () -> h.attach(side));
            // turned it is as wide as it was high
            h.turn(1);
            Checks.same("width", 400, h.told(1));
        }
    }

    /** "or have more than 40 tiles": 40 may be, 41 not. */
    private static void mostTiles() {
        for (int more : new int[] {20, 21}) {
            PictureCodingHouse h = house();
            for (int i = 0; i < 20; i++) {
                h.place(0, i, 0);
            }
            h.swap();
            for (int i = 0; i < more; i++) {
                h.place(0, i, 0);
            }
            if (more == 21) {
                for (int side = 0; side < 4; side++) {
                    int one = side;
                    Checks.refused("41 tiles", SUPPORT, h, () -> h.attach(one));
                }
                Checks.same("its way stays", 0, h.turn(0));
            } else {
                Checks.same("40 tiles", 40, h.attach(3));
                Checks.refused("a tile more", SUPPORT, h, () -> h.place(0, 39, 39));
                Checks.same("the other has none, and may be put there again", 40, h.attach(3));
            }
        }
    }

    /** "its tiles come behind the others in their order", "has no tiles then (its size stays)". */
    private static void attachedTiles() {
        PictureCodingHouse h = house();
        h.place(0, 3, 4);
        h.place(1, 5, 6);
        h.crop(0, 0, 30, 40);
        h.swap();
        h.place(2, 7, 8);
        Checks.same("left", 3, h.attach(0));
        int[][] due = {{37, 8, 2}, {3, 4, 0}, {5, 6, 1}};
        for (int t = 0; t < 3; t++) {
            Checks.same("x", due[t][0], h.tile(t, 0));
            Checks.same("y", due[t][1], h.tile(t, 1));
            Checks.same("picture", due[t][2], h.tile(t, 5));
        }
        Checks.same("width", 70, h.told(1));
        Checks.same("its size stays", 30, h.told(4));
        Checks.same("its size stays", 40, h.told(5));
        Checks.same("no tiles", 0, h.told(6));
        Checks.same("again, as wide as it is", 3, h.attach(2));
        Checks.same("width", 100, h.told(1));
        Checks.same("nothing there", -1, h.shown(99, 0));
    }

    // ---- tile, shown, render

    private static void tilesThatAre() {
        PictureCodingHouse h = house();
        Checks.refused("none", INDEX, h, () -> h.tile(0, 0));
        Checks.refused("none, and another what", INDEX, h, () -> h.tile(0, 8));
        h.place(4, 1, 2);
        int[] due = {1, 2, 5, 1, 0, 4, 5, 1};
        for (int what = 0; what < 8; what++) {
            Checks.same("what " + what, due[what], h.tile(0, what));
        }
        Checks.refused("what 8", ARGUMENT, h, () -> h.tile(0, 8));
        Checks.refused("what -1", ARGUMENT, h, () -> h.tile(0, -1));
        Checks.refused("tile 1", INDEX, h, () -> h.tile(1, 0));
        Checks.refused("tile -1", INDEX, h, () -> h.tile(-1, 0));
    }

    private static void shownAtTheCorners() {
        PictureCodingHouse h = house();
        Checks.draw(h, 0, new int[][] {{1, 2, 3}, {4, 5, 6}});
        h.place(0, 37, 38);
        int[][][] corners = {{{36, 37}, {-1}}, {{37, 38}, {1}}, {{39, 38}, {3}}, {{37, 39}, {4}}, {{39, 39}, {6}},
            {{36, 38}, {-1}}, {{37, 37}, {-1}}, {{0, 0}, {-1}}};
        for (int[][] one : corners) {
            Checks.same("at " + one[0][0] + " " + one[0][1], one[1][0], h.shown(one[0][0], one[0][1]));
        }
        h.swap();
        Checks.same("of THIS one alone", -1, h.shown(37, 38));
        h.crop(0, 0, 1, 1);
        Checks.same("the only sample", -1, h.shown(0, 0));
        Checks.refused("behind it", INDEX, h, () -> h.shown(1, 0));
        Checks.refused("below it", INDEX, h, () -> h.shown(0, 1));
        Checks.refused("before it", INDEX, h, () -> h.shown(-1, 0));
        Checks.refused("above it", INDEX, h, () -> h.shown(0, -1));
    }

    /** "as that picture is now; nothing, if .. the picture is not THERE any more, or has no such sample, or not INSIDE". */
    private static void shownAsItIsNow() {
        for (int way = 0; way < 8; way++) {
            PictureCodingHouse h = house();
            Checks.draw(h, 0, new int[][] {{1, 2, 3}, {4, 5, 6}});
            h.place(0, 0, 0);
            h.crop(0, 0, 3, 2);
            h.turn(way);
            int width = h.told(1);
            int height = h.told(2);
            int[] places = new int[7];
            for (int y = 0; y < height; y++) {
                for (int x = 0; x < width; x++) {
                    places[h.shown(x, y)] = 100 * y + x;
                }
            }
            h.shape(0, 1, 1, 1, false);
            Checks.same("not inside", -1, h.shown(places[5] % 100, places[5] / 100));
            Checks.same("another one is", 2, h.shown(places[2] % 100, places[2] / 100));
            h.put(0, 2, 0, 1, 77);
            Checks.same("as it is now", 77, h.shown(places[3] % 100, places[3] / 100));
            Checks.draw(h, 0, new int[][] {{8, 9}});
            int[] due = {0, 8, 9, -1, -1, -1, -1};
            for (int i = 1; i <= 6; i++) {
                Checks.same("of a smaller one", due[i], h.shown(places[i] % 100, places[i] / 100));
            }
            h.picture(0, 12, 12);
            for (int i = 1; i <= 6; i++) {
                Checks.same("of a greater one", 0, h.shown(places[i] % 100, places[i] / 100));
            }
            h.put(0, 3, 0, 9, 5);
            h.put(0, 0, 2, 12, 5);
            for (int i = 1; i <= 6; i++) {
                Checks.same("what its own size has not is not shown", 0, h.shown(places[i] % 100, places[i] / 100));
            }
            PictureCodingHouse gone = house();
            gone.place(0, 0, 0);
            gone.copy(0, 5);
            Checks.same("a copy of another one", 0, gone.shown(0, 0));
            PictureCodingHouse none = new PictureCodingHouse();
            none.picture(0, 1, 1);
            none.place(0, 0, 0);
            none.copy(0, 1);
            Checks.same("not there any more", -1, none.shown(0, 0));
            Checks.same("nothing to render", 0, none.render(0, 0, 1, 1, 2));
        }
    }

    /** "(as all pictures were before): samples where something is are INSIDE, others 0 and not". */
    private static void rendered() {
        PictureCodingHouse h = house();
        Checks.draw(h, 0, new int[][] {{1, 0, 3}});
        h.shape(0, 2, 0, 1, false);
        h.place(0, 1, 1);
        Checks.same("two", 2, h.render(0, 0, 5, 3, 6));
        Checks.samePicture("two", h, 6, new int[][] {{0, 0, 0, 0, 0}, {0, 1, 0, 0, 0}, {0, 0, 0, 0, 0}});
        Checks.holds("a sample of 0 is inside", h.isInside(6, 2, 1));
        Checks.holds("one that is not inside is not", !h.isInside(6, 3, 1));
        Checks.same("into the picture that is shown", 2, h.render(1, 1, 2, 1, 0));
        Checks.samePicture("into the picture that is shown", h, 0, new int[][] {{1, 0}});
        Checks.same("it is shown so then", -1, h.shown(3, 1));
        Checks.same("and again, moved by one", 2, h.render(0, 1, 3, 1, 0));
        Checks.samePicture("and again", h, 0, new int[][] {{0, 1, 0}});
        Checks.holds("the first one is nothing", !h.isInside(0, 0, 0));
    }

    /** "w times h, 1 .. 12 each", wholly in the album. */
    private static void renderedSizes() {
        PictureCodingHouse h = house();
        for (int side : new int[] {1, 12}) {
            Checks.same("render", 0, h.render(40 - side, 0, side, 13 - side, 3));
            Checks.same("width", side, h.size(0, 3, 0));
            Checks.same("height", 13 - side, h.size(0, 3, 1));
            Checks.same("render", 0, h.render(0, 40 - side, 13 - side, side, 3));
            Checks.refused("a column farther", ARGUMENT, h, () -> h.render(41 - side, 0, side, 1, 3));
            Checks.refused("a row farther", ARGUMENT, h, () -> h.render(0, 41 - side, 1, side, 3));
        }
        for (int side : new int[] {0, 13, -1, Integer.MAX_VALUE, Integer.MIN_VALUE}) {
            Checks.refused("width " + side, ARGUMENT, h, () -> h.render(0, 0, side, 1, 3));
            Checks.refused("height " + side, ARGUMENT, h, () -> h.render(0, 0, 1, side, 3));
        }
        for (int at : new int[] {-1, 40, Integer.MAX_VALUE, Integer.MIN_VALUE}) {
            Checks.refused("x " + at, ARGUMENT, h, () -> h.render(at, 0, 1, 1, 3));
            Checks.refused("y " + at, ARGUMENT, h, () -> h.render(0, at, 1, 1, 3));
        }
        h.crop(0, 0, 5, 5);
        Checks.same("all of it", 0, h.render(0, 0, 5, 5, 3));
        Checks.refused("more than it has", ARGUMENT, h, () -> h.render(0, 0, 6, 5, 3));
        Checks.refused("more than it has", ARGUMENT, h, () -> h.render(0, 0, 5, 6, 3));
        Checks.refused("the picture is looked at first", INDEX, h, () -> h.render(0, 0, 0, 0, 8));
    }

    // ---- album

    private static void addLow(List<Integer> bytes, int v) {
        bytes.add(v & 255);
        bytes.add(v >> 8);
    }

    /** No tiles, and as many as may be, at places above 255; "by y, then x of their first samples". */
    private static void filesOfAlbums() {
        PictureCodingHouse h = house();
        Checks.same("no tiles", 8, h.album(3));
        Checks.same("no tiles", new int[] {76, 70, 40, 0, 40, 0, 0, 0}, Checks.file(h, 3));
        for (int i = 0; i < 9; i++) {
            h.attach(2);
        }
        List<int[]> tiles = new ArrayList<>();
        for (int i = 0; i < 40; i++) {
            int[] at = {(i * 173 + 90) % 388, i * 7 % 3 * 13};
            int k = i % 7;
            try {
                h.place(k, at[0], at[1]);
                tiles.add(new int[] {at[0], at[1], k + 1, 1, 0, k});
            } catch (IllegalStateException e) {
                continue;
            }
        }
        while (h.told(3) < 40) {
            int x = 399 - h.told(3);
            h.place(0, x, 39);
            tiles.add(new int[] {x, 39, 1, 1, 0, 0});
        }
        List<int[]> order = new ArrayList<>(tiles);
        order.sort((p, q) -> p[1] != q[1] ? p[1] - q[1] : p[0] - q[0]);
        List<Integer> bytes = new ArrayList<>(List.of(76, 70));
        addLow(bytes, 400);
        addLow(bytes, 40);
        bytes.add(40);
        for (int[] tile : tiles) {
            addLow(bytes, 8 + 80 + 13 * order.indexOf(tile));
        }
        bytes.add(0);
        for (int[] tile : order) {
            int from = bytes.size();
            for (int what = 0; what < 4; what++) {
                addLow(bytes, tile[what]);
            }
            bytes.addAll(List.of(tile[4], 1, tile[5]));
            int sum = 1;
            for (int i = from; i < from + 11; i++) {
                sum = (31 * sum + bytes.get(i)) % 65521;
            }
            addLow(bytes, sum);
        }
        Checks.same("40 tiles", 8 + 80 + 520, h.album(3));
        Checks.same("40 tiles", Checks.bytes(bytes), Checks.file(h, 3));
    }
}
