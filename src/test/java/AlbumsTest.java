import java.util.ArrayList;
import java.util.List;
import java.util.Random;

/** Promises 13 to 16: place, turn, crop, near, swap, attach, tile, shown, render and album. */
public final class AlbumsTest {
    public static void main(String[] args) {
        placed();
        ways();
        cropped();
        swapped();
        attached();
        limits();
        shown();
        rendered();
        written();
        sameAsReference();
        Checks.end();
    }

    private static void placed() {
        PictureCodingHouse house = new PictureCodingHouse();
        house.picture(0, 3, 2);
        Checks.index("place", () -> house.place(8, 99, 99));
        Checks.state("place", () -> house.place(1, 99, 99));
        Checks.argument("place", () -> house.place(0, 38, 0));
        Checks.argument("place", () -> house.place(0, 0, 39));
        Checks.argument("place", () -> house.place(0, -1, 0));
        Checks.argument("place", () -> house.place(0, 0, -1));
        Checks.argument("place", () -> house.place(0, Integer.MAX_VALUE, 0));
        Checks.same("place", 0, house.place(0, 37, 38));
        Checks.argument("place, outside is looked at first", () -> house.place(0, 38, 38));
        Checks.state("common sample", () -> house.place(0, 35, 37));
        Checks.same("place", 1, house.place(0, 34, 38));
        Checks.same("place", 2, house.place(0, 37, 36));
        Checks.same("tiles", 3, house.told(3));
        int[] due = {37, 36, 3, 2, 0, 0, 3, 2};
        for (int what = 0; what < 8; what++) {
            Checks.same("tile " + what, due[what], house.tile(2, what));
        }
        Checks.index("tile", () -> house.tile(3, 8));
        Checks.index("tile", () -> house.tile(-1, 0));
        Checks.argument("tile", () -> house.tile(0, 8));
        Checks.argument("tile", () -> house.tile(0, -1));
        PictureCodingHouse many = new PictureCodingHouse();
        many.picture(0, 1, 1);
        many.picture(1, 2, 1);
        for (int i = 0; i < 40; i++) {
            Checks.same("place", i, many.place(0, i, 39));
        }
        Checks.state("common sample is looked at first", () -> many.place(0, 0, 39));
        Checks.support("41 tiles", () -> many.place(1, 0, 0));
        Checks.same("tiles", 40, many.told(3));
        Checks.same("no work", 0, many.told(0));
    }

    private static void ways() {
        PictureCodingHouse house = new PictureCodingHouse();
        Checks.argument("turn", () -> house.turn(-1));
        Checks.argument("turn", () -> house.turn(8));
        // each way after each other one does what both do, one behind the other
        for (int one = 0; one < 8; one++) {
            for (int then = 0; then < 8; then++) {
                PictureCodingHouse twice = new PictureCodingHouse();
                PictureCodingHouse once = new PictureCodingHouse();
                for (PictureCodingHouse each : List.of(twice, once)) {
                    Checks.draw(each, 0, new int[][] {{1, 2, 3}, {4, 5, 6}});
                    each.place(0, 0, 0);
                    each.crop(0, 0, 3, 2);
                }
                Checks.same("turn", one, twice.turn(one));
                int both = twice.turn(then);
                Checks.same("together", both, once.turn(both));
                Checks.same("way", both, twice.tile(0, 4));
                Checks.same("width", once.told(1), twice.told(1));
                for (int y = 0; y < once.told(2); y++) {
                    for (int x = 0; x < once.told(1); x++) {
                        Checks.same("shown", once.shown(x, y), twice.shown(x, y));
                    }
                }
            }
        }
        Checks.draw(house, 0, new int[][] {{1, 2, 3}, {4, 5, 6}});
        house.place(0, 0, 0);
        house.crop(0, 0, 3, 2);
        Checks.same("turn", 1, house.turn(1));
        sameShown(house, new int[][] {{4, 1}, {5, 2}, {6, 3}});
        Checks.same("turn", 2, house.turn(1));
        sameShown(house, new int[][] {{6, 5, 4}, {3, 2, 1}});
        Checks.same("turn", 6, house.turn(4) & 7);
        sameShown(house, new int[][] {{4, 5, 6}, {1, 2, 3}});
        Checks.same("turn", 0, house.turn(6));
        sameShown(house, new int[][] {{1, 2, 3}, {4, 5, 6}});
        Checks.same("turn", 5, house.turn(5));
        sameShown(house, new int[][] {{6, 3}, {5, 2}, {4, 1}});
        Checks.same("the way stays behind crop", 0, house.crop(0, 0, 2, 3) - 1);
        Checks.same("turn", 5, house.turn(0));
    }

    private static void sameShown(PictureCodingHouse house, int[][] due) {
        Checks.same("width", due[0].length, house.told(1));
        Checks.same("height", due.length, house.told(2));
        for (int y = 0; y < due.length; y++) {
            for (int x = 0; x < due[0].length; x++) {
                Checks.same("shown " + x + " " + y, due[y][x], house.shown(x, y));
            }
        }
    }

    private static void cropped() {
        PictureCodingHouse house = new PictureCodingHouse();
        house.picture(0, 4, 4);
        Checks.state("no crop yet", () -> house.near(0));
        Checks.index("near", () -> house.near(4));
        Checks.index("near", () -> house.near(-1));
        for (int i = 0; i < 3; i++) {
            house.place(0, 10 + 8 * i, 10 + 5 * i);
        }
        Checks.argument("crop", () -> house.crop(0, 0, 0, 1));
        Checks.argument("crop", () -> house.crop(0, 0, 1, 0));
        Checks.argument("crop", () -> house.crop(-1, 0, 1, 1));
        Checks.argument("crop", () -> house.crop(0, 0, 41, 1));
        Checks.argument("crop", () -> house.crop(1, 0, 40, 1));
        Checks.argument("crop", () -> house.crop(0, 39, 1, 2));
        Checks.argument("crop", () -> house.crop(0, 1, 1, Integer.MAX_VALUE));
        Checks.same("crop through a tile", -1, house.crop(12, 11, 15, 9));
        // columns 11 to 13, 19 to 21, 27 to 29 do not fit; rows 11 to 13, 16 to 18, 21 to 23
        Checks.same("left", 10, house.near(0));
        Checks.same("upper", 10, house.near(1));
        Checks.same("right", 26, house.near(2));
        Checks.same("lower", 20, house.near(3));
        Checks.argument("a crop that throws is none", () -> house.crop(0, 0, 99, 1));
        Checks.same("left", 10, house.near(0));
        Checks.same("crop that only its right border does not fit", -1, house.crop(0, 0, 28, 40));
        Checks.same("right, of two such the lesser", 26, house.near(2));
        Checks.same("left fits", 0, house.near(0));
        Checks.same("lower fits", 40, house.near(3));
        Checks.same("crop", -1, house.crop(13, 0, 27, 40));
        Checks.same("left, the greater", 14, house.near(0));
        house.turn(0);
        Checks.state("turned", () -> house.near(0));
        Checks.same("crop", -1, house.crop(13, 0, 27, 40));
        house.place(0, 0, 0);
        Checks.state("placed", () -> house.near(0));
        Checks.same("crop", -1, house.crop(13, 0, 27, 40));
        house.swap();
        Checks.state("swapped", () -> house.near(0));
        house.swap();
        Checks.state("swapped back", () -> house.near(0));
        Checks.same("crop", -1, house.crop(13, 0, 27, 40));
        house.attach(0);
        Checks.state("attached", () -> house.near(0));
        Checks.same("crop", -1, house.crop(53, 0, 27, 40));
        // tiles 0 to 3 are now 40 to the right; the first goes, the last one too
        Checks.same("crop", 2, house.crop(55, 9, 20, 20));
        Checks.state("the latest crop did not", () -> house.near(0));
        Checks.same("width", 20, house.told(1));
        Checks.same("height", 20, house.told(2));
        Checks.same("x", 3, house.tile(0, 0));
        Checks.same("y", 6, house.tile(0, 1));
        Checks.same("x", 11, house.tile(1, 0));
    }

    private static void swapped() {
        PictureCodingHouse house = new PictureCodingHouse();
        house.picture(0, 2, 2);
        house.place(0, 0, 0);
        house.crop(0, 0, 7, 9);
        house.turn(1);
        Checks.same("swap", 0, house.swap());
        Checks.same("width", 40, house.told(1));
        Checks.same("other width", 9, house.told(4));
        Checks.same("other height", 7, house.told(5));
        Checks.same("other tiles", 1, house.told(6));
        Checks.same("turn", 3, house.turn(3));
        Checks.same("swap", 1, house.swap());
        Checks.same("its way since then is 0", 2, house.turn(2));
        Checks.same("the tile's is not", 3, house.tile(0, 4));
    }

    private static void attached() {
        int[][] due = {{4, 0, 0, 0}, {0, 3, 0, 0}, {0, 0, 5, 0}, {0, 0, 0, 5}};
        for (int side = 0; side < 4; side++) {
            PictureCodingHouse house = new PictureCodingHouse();
            house.picture(0, 1, 1);
            house.picture(1, 1, 1);
            house.place(0, 0, 0);
            house.crop(0, 0, side % 2 == 0 ? 4 : 5, side % 2 == 0 ? 5 : 3);
            house.swap();
            house.place(1, 0, 0);
            house.crop(0, 0, 5, 5);
            house.turn(4);
            // this one is 5 times 5, its tile at (4, 0); the other has one at (0, 0)
            Checks.same("attach", 2, house.attach(side));
            Checks.same("width", side % 2 == 0 ? 9 : 5, house.told(1));
            Checks.same("height", side % 2 == 0 ? 5 : 8, house.told(2));
            Checks.same("x of this one's", 4 + due[side][0], house.tile(0, 0));
            Checks.same("y of this one's", due[side][1], house.tile(0, 1));
            Checks.same("x of the other's", due[side][2], house.tile(1, 0));
            Checks.same("y of the other's", due[side][3], house.tile(1, 1));
            Checks.same("picture", 1, house.tile(0, 5));
            Checks.same("picture", 0, house.tile(1, 5));
            Checks.same("the other has none", 0, house.told(6));
            Checks.same("its size stays", side % 2 == 0 ? 4 : 5, house.told(4));
            Checks.same("its size stays", side % 2 == 0 ? 5 : 3, house.told(5));
            Checks.same("way", 1, house.turn(1));
        }
    }

    private static void limits() {
        PictureCodingHouse house = new PictureCodingHouse();
        Checks.index("attach", () -> house.attach(4));
        Checks.index("attach", () -> house.attach(-1));
        for (int i = 1; i < 10; i++) {
            Checks.same("attach", 0, house.attach(2));
        }
        Checks.same("width", 400, house.told(1));
        Checks.support("too wide", () -> house.attach(0));
        Checks.state("widths", () -> house.attach(1));
        house.turn(1);
        Checks.state("heights", () -> house.attach(2));
        Checks.support("too high", () -> house.attach(3));
        PictureCodingHouse many = new PictureCodingHouse();
        many.picture(0, 1, 1);
        for (int i = 0; i < 20; i++) {
            many.place(0, i, 0);
        }
        many.swap();
        for (int i = 0; i < 21; i++) {
            many.place(0, i, 0);
        }
        Checks.support("41 tiles", () -> many.attach(1));
        many.crop(1, 0, 39, 40);
        Checks.state("widths", () -> many.attach(1));
        Checks.same("40 tiles", 40, many.attach(2));
        Checks.same("no work", 0, many.told(0));
    }

    private static void shown() {
        PictureCodingHouse house = new PictureCodingHouse();
        Checks.index("shown", () -> house.shown(40, 0));
        Checks.index("shown", () -> house.shown(0, 40));
        Checks.index("shown", () -> house.shown(-1, 0));
        Checks.draw(house, 0, new int[][] {{1, 2, 3}, {4, 5, 6}});
        house.place(0, 1, 1);
        house.crop(0, 0, 5, 4);
        house.shape(0, 0, 0, 1, false);
        int[][] due = {{-1, -1, -1, -1, -1}, {-1, -1, 2, 3, -1}, {-1, 4, 5, 6, -1}, {-1, -1, -1, -1, -1}};
        sameShown(house, due);
        // the picture has become another one: places are by the tile's own size
        Checks.draw(house, 0, new int[][] {{7, 8}, {9, 10}, {11, 12}});
        due = new int[][] {{-1, -1, -1, -1, -1}, {-1, 7, 8, -1, -1}, {-1, 9, 10, -1, -1}, {-1, -1, -1, -1, -1}};
        sameShown(house, due);
        house.turn(4);
        due = new int[][] {{-1, -1, -1, -1, -1}, {-1, -1, 8, 7, -1}, {-1, -1, 10, 9, -1}, {-1, -1, -1, -1, -1}};
        sameShown(house, due);
        house.copy(0, 1);
        Checks.same("not there any more", -1, house.shown(2, 1));
    }

    private static void rendered() {
        PictureCodingHouse house = new PictureCodingHouse();
        Checks.draw(house, 0, new int[][] {{1, 2, 3}, {4, 5, 6}});
        house.place(0, 1, 1);
        Checks.index("render", () -> house.render(0, 0, 0, 0, 8));
        Checks.argument("render", () -> house.render(0, 0, 13, 1, 0));
        Checks.argument("render", () -> house.render(0, 0, 1, 13, 0));
        Checks.argument("render", () -> house.render(0, 0, 0, 1, 0));
        Checks.argument("render", () -> house.render(0, 0, 1, 0, 0));
        Checks.argument("render", () -> house.render(30, 0, 11, 1, 0));
        Checks.argument("render", () -> house.render(0, -1, 1, 1, 0));
        Checks.same("render itself", 4, house.render(0, 1, 3, 2, 0));
        Checks.samePicture("render", house, 0, new int[][] {{0, 1, 2}, {0, 4, 5}});
        Checks.sameMask("render", house, 0, new boolean[][] {{false, true, true}, {false, true, true}});
        Checks.same("render of one", 1, house.render(2, 1, 1, 1, 2));
        Checks.samePicture("render of one", house, 2, new int[][] {{1}});
        Checks.same("render of nothing", 0, house.render(20, 20, 12, 12, 1));
        Checks.same("render of nothing", 0, house.size(0, 1, 2));
        Checks.same("render of nothing", 12, house.size(0, 1, 0));
    }

    private static void addLow(List<Integer> bytes, int v) {
        bytes.add(v & 255);
        bytes.add(v >> 8);
    }

    private static void written() {
        Random random = new Random(51);
        PictureCodingHouse empty = new PictureCodingHouse();
        Checks.same("album", 8, empty.album(0));
        Checks.same("album", new int[] {76, 70, 40, 0, 40, 0, 0, 0}, Checks.file(empty, 0));
        Checks.index("album", () -> empty.album(12));
        for (int run = 0; run < 60; run++) {
            PictureCodingHouse house = new PictureCodingHouse();
            for (int k = 0; k < 8; k++) {
                house.picture(k, 1 + random.nextInt(6), 1 + random.nextInt(6));
            }
            for (int i = 0; i < 60; i++) {
                try {
                    house.place(random.nextInt(8), random.nextInt(40), random.nextInt(40));
                } catch (RuntimeException e) {
                    continue;
                }
                if (i % 9 == 0) {
                    house.turn(random.nextInt(8));
                }
            }
            for (int i = random.nextInt(9); i > 0; i--) {
                house.attach(2 * random.nextInt(2));
            }
            house.turn(random.nextInt(8));
            int n = house.told(3);
            List<Integer> order = new ArrayList<>();
            for (int t = 0; t < n; t++) {
                order.add(t);
            }
            order.sort((p, q) -> house.tile(p, 1) != house.tile(q, 1) ? house.tile(p, 1) - house.tile(q, 1)
                    : house.tile(p, 0) - house.tile(q, 0));
            List<Integer> bytes = new ArrayList<>(List.of(76, 70));
            addLow(bytes, house.told(1));
            addLow(bytes, house.told(2));
            bytes.add(n);
            for (int t = 0; t < n; t++) {
                addLow(bytes, 8 + 2 * n + 13 * order.indexOf(t));
            }
            bytes.add(0);
            for (int t : order) {
                List<Integer> part = new ArrayList<>();
                for (int what = 0; what < 4; what++) {
                    addLow(part, house.tile(t, what));
                }
                part.add(house.tile(t, 4));
                part.add(1);
                part.add(house.tile(t, 5));
                int sum = 1;
                for (int b : part) {
                    sum = (sum * 31 + b) % 65521;
                }
                addLow(part, sum);
                bytes.addAll(part);
            }
            Checks.same("album", bytes.size(), house.album(9));
            Checks.same("album", Checks.bytes(bytes), Checks.file(house, 9));
        }
    }

    // ---- a plain reading: a map of which tile and which of its own samples is at each place

    private static int[][][] turned(int[][][] map, int way) {
        int[][][] now = map;
        if (way >= 4) {
            int[][][] next = new int[now.length][now[0].length][];
            for (int y = 0; y < now.length; y++) {
                for (int x = 0; x < now[0].length; x++) {
                    next[y][now[0].length - 1 - x] = now[y][x];
                }
            }
            now = next;
        }
        for (int i = 0; i < way % 4; i++) {
            int[][][] next = new int[now[0].length][now.length][];
            for (int y = 0; y < now.length; y++) {
                for (int x = 0; x < now[0].length; x++) {
                    next[x][now.length - 1 - y] = now[y][x];
                }
            }
            now = next;
        }
        return now;
    }

    private static int[][][] cut(int[][][] map, int x, int y, int w, int h) {
        int[][][] next = new int[h][w][];
        for (int j = 0; j < h; j++) {
            System.arraycopy(map[y + j], x, next[j], 0, w);
        }
        return next;
    }

    private static boolean fits(int[][][] map, boolean upright, int c) {
        if (c == 0 || c == (upright ? map[0].length : map.length)) {
            return true;
        }
        for (int i = 0; i < (upright ? map.length : map[0].length); i++) {
            int[] before = upright ? map[i][c - 1] : map[c - 1][i];
            int[] behind = upright ? map[i][c] : map[c][i];
            if (before != null && behind != null && before[0] == behind[0]) {
                return false;
            }
        }
        return true;
    }

    private static int nearest(int[][][] map, boolean upright, int c) {
        int best = -1;
        for (int i = 0; i <= (upright ? map[0].length : map.length); i++) {
            if (fits(map, upright, i) && (best < 0 || Math.abs(i - c) < Math.abs(best - c))) {
                best = i;
            }
        }
        return best;
    }

    private static void sameAsReference() {
        Random random = new Random(52);
        for (int run = 0; run < 80; run++) {
            PictureCodingHouse house = new PictureCodingHouse();
            int[][][] pictures = new int[8][][];
            for (int k = 0; k < 8; k++) {
                pictures[k] = Checks.greys(random, 1 + random.nextInt(9), 1 + random.nextInt(9), 255);
                Checks.draw(house, k, pictures[k]);
            }
            int[][][] map = new int[40][40][];
            int[][][] other = new int[40][40][];
            int number = 0;
            for (int step = 0; step < 40; step++) {
                int what = random.nextInt(6);
                if (what <= 1) {
                    int k = random.nextInt(8);
                    int x = random.nextInt(map[0].length);
                    int y = random.nextInt(map.length);
                    try {
                        house.place(k, x, y);
                    } catch (RuntimeException e) {
                        continue;
                    }
                    for (int j = 0; j < pictures[k].length; j++) {
                        for (int i = 0; i < pictures[k][0].length; i++) {
                            Checks.holds("free", map[y + j][x + i] == null);
                            map[y + j][x + i] = new int[] {number, k, i, j};
                        }
                    }
                    number++;
                } else if (what == 2) {
                    int way = random.nextInt(8);
                    house.turn(way);
                    map = turned(map, way);
                } else if (what == 3) {
                    int x = random.nextInt(map[0].length);
                    int y = random.nextInt(map.length);
                    int w = 1 + random.nextInt(map[0].length - x);
                    int h = 1 + random.nextInt(map.length - y);
                    if (random.nextBoolean()) {
                        int right = nearest(map, true, x + w);
                        int low = nearest(map, false, y + h);
                        x = nearest(map, true, x);
                        y = nearest(map, false, y);
                        w = right - x;
                        h = low - y;
                    }
                    if (w < 6 || h < 6) {
                        continue;
                    }
                    int answer = house.crop(x, y, w, h);
                    boolean whole = fits(map, true, x) && fits(map, true, x + w) && fits(map, false, y)
                            && fits(map, false, y + h);
                    Checks.holds("crop", whole == answer >= 0);
                    if (whole) {
                        map = cut(map, x, y, w, h);
                    } else {
                        Checks.same("left", nearest(map, true, x), house.near(0));
                        Checks.same("upper", nearest(map, false, y), house.near(1));
                        Checks.same("right", nearest(map, true, x + w), house.near(2));
                        Checks.same("lower", nearest(map, false, y + h), house.near(3));
                    }
                } else if (what == 4) {
                    house.swap();
                    int[][][] before = map;
                    map = other;
                    other = before;
                } else {
                    int side = random.nextInt(4);
                    try {
                        house.attach(side);
                    } catch (RuntimeException e) {
                        continue;
                    }
                    map = joined(map, other, side);
                    other = new int[other.length][other[0].length][];
                }
                sameMap(house, map, pictures);
            }
        }
    }

    private static int[][][] joined(int[][][] map, int[][][] other, int side) {
        int[][][] first = side < 2 ? other : map;
        int[][][] second = side < 2 ? map : other;
        boolean beside = side % 2 == 0;
        int[][][] next = beside ? new int[map.length][first[0].length + second[0].length][]
                : new int[first.length + second.length][map[0].length][];
        for (int y = 0; y < next.length; y++) {
            for (int x = 0; x < next[0].length; x++) {
                boolean isFirst = beside ? x < first[0].length : y < first.length;
                next[y][x] = isFirst ? first[y][x]
                        : beside ? second[y][x - first[0].length] : second[y - first.length][x];
            }
        }
        return next;
    }

    private static void sameMap(PictureCodingHouse house, int[][][] map, int[][][] pictures) {
        Checks.same("width", map[0].length, house.told(1));
        Checks.same("height", map.length, house.told(2));
        if (map[0].length != house.told(1) || map.length != house.told(2)) {
            return;
        }
        java.util.Set<Integer> tiles = new java.util.HashSet<>();
        for (int[][] row : map) {
            for (int[] at : row) {
                if (at != null) {
                    tiles.add(at[0]);
                }
            }
        }
        Checks.same("tiles", tiles.size(), house.told(3));
        for (int y = 0; y < map.length; y += 1 + map.length / 60) {
            for (int x = 0; x < map[0].length; x++) {
                int[] at = map[y][x];
                Checks.same("shown", at == null ? -1 : pictures[at[1]][at[3]][at[2]], house.shown(x, y));
            }
        }
    }
}
