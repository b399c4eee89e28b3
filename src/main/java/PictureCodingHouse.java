import java.util.NoSuchElementException;

/** A house of pictures: grey pictures of any shape, sheets of dark and light, files of bytes. */
public final class PictureCodingHouse {
    public static final int NONE = -1;

    private static final int PICTURES = 8;
    private static final int SHEETS = 4;
    private static final int FILES = 12;
    private static final int PICTURE_SIDE = 12;
    private static final int PICTURE_SAMPLES = PICTURE_SIDE * PICTURE_SIDE;
    private static final int SHEET_SIDE = 24;
    private static final int SHEET_SAMPLES = SHEET_SIDE * SHEET_SIDE;
    private static final int FILE_BYTES = 1500;
    private static final int PACKED_BYTES = 512;
    private static final int BITS_MOST = 60000;
    private static final int ALL_WORK = 300;
    private static final int BATCH_WORK = 9;

    private final Grid[] pictures = new Grid[PICTURES];
    private final Grid[] sheets = new Grid[SHEETS];
    private final ByteRow[] files = new ByteRow[FILES];
    private final ByteRow out = new ByteRow(FILE_BYTES);
    private final Grid drawn = new Grid(PICTURE_SAMPLES);
    private final Lines lines = new Lines();
    private final Waves waves = new Waves();
    private final Chunks chunks = new Chunks();
    private final Packs packs = new Packs();
    private final Greys greys = new Greys();
    private final Texts texts = new Texts();
    private final Books books = new Books();
    private final Batch batch = new Batch();
    private Album thisAlbum = new Album();
    private Album otherAlbum = new Album();
    private int workDone;
    private int faultNumber;
    private int faultPlace = NONE;

    public PictureCodingHouse() {
        for (int k = 0; k < PICTURES; k++) {
            pictures[k] = new Grid(PICTURE_SAMPLES);
        }
        for (int s = 0; s < SHEETS; s++) {
            sheets[s] = new Grid(SHEET_SAMPLES);
        }
        for (int f = 0; f < FILES; f++) {
            files[f] = new ByteRow(FILE_BYTES);
        }
    }

    // ---- pictures

    public void picture(int k, int width, int height)
            throws IndexOutOfBoundsException, IllegalArgumentException {
        needIndex(k, PICTURES);
        needArgument(isIn(width, 1, PICTURE_SIDE) && isIn(height, 1, PICTURE_SIDE));
        pictures[k].make(width, height, true);
    }

    public int put(int k, int x, int y, int n, int v)
            throws IndexOutOfBoundsException, IllegalStateException, IllegalArgumentException {
        Grid picture = pictureThere(k);
        needSample(picture, x, y);
        needArgument(n >= 1 && isByte(v));
        return picture.fillGreys(x, y, n, v);
    }

    public int shape(int k, int x, int y, int n, boolean inside)
            throws IndexOutOfBoundsException, IllegalStateException, IllegalArgumentException {
        Grid picture = pictureThere(k);
        needSample(picture, x, y);
        needArgument(n >= 1);
        return picture.fillMarks(x, y, n, inside);
    }

    public int at(int k, int x, int y) throws IndexOutOfBoundsException, IllegalStateException {
        Grid picture = pictureThere(k);
        needSample(picture, x, y);
        return picture.grey(x, y);
    }

    public boolean isInside(int k, int x, int y) throws IndexOutOfBoundsException, IllegalStateException {
        Grid picture = pictureThere(k);
        needSample(picture, x, y);
        return picture.marked(x, y);
    }

    public void copy(int k, int from) throws IndexOutOfBoundsException {
        needIndex(k, PICTURES);
        needIndex(from, PICTURES);
        pictures[k].take(pictures[from]);
    }

    // ---- sheets

    public void sheet(int s, int width, int height)
            throws IndexOutOfBoundsException, IllegalArgumentException {
        needIndex(s, SHEETS);
        needArgument(isIn(width, 1, SHEET_SIDE) && isIn(height, 1, SHEET_SIDE));
        sheets[s].make(width, height, false);
    }

    public int ink(int s, int x, int y, int n, boolean dark)
            throws IndexOutOfBoundsException, IllegalStateException, IllegalArgumentException {
        Grid sheet = sheetThere(s);
        needSample(sheet, x, y);
        needArgument(n >= 1);
        return sheet.fillMarks(x, y, n, dark);
    }

    public boolean isDark(int s, int x, int y) throws IndexOutOfBoundsException, IllegalStateException {
        Grid sheet = sheetThere(s);
        needSample(sheet, x, y);
        return sheet.marked(x, y);
    }

    public int apart(int s, int other) throws IndexOutOfBoundsException, IllegalStateException {
        needIndex(other, SHEETS);
        Grid one = sheetThere(s);
        Grid two = sheetThere(other);
        needState(one.width == two.width && one.height == two.height);
        int apart = 0;
        for (int y = 0; y < one.height; y++) {
            for (int x = 0; x < one.width; x++) {
                if (one.marked(x, y) != two.marked(x, y)) {
                    apart++;
                }
            }
        }
        return apart;
    }

    // ---- files

    public int byteAt(int f, int i) throws IndexOutOfBoundsException {
        needIndex(f, FILES);
        needIndex(i, files[f].count);
        return files[f].get(i);
    }

    public int feed(int f, int b)
            throws IndexOutOfBoundsException, IllegalArgumentException, UnsupportedOperationException {
        needIndex(f, FILES);
        needArgument(isByte(b));
        needSupport(files[f].count < FILE_BYTES);
        files[f].add(b);
        return files[f].count;
    }

    public int alter(int f, int i, int b) throws IndexOutOfBoundsException, IllegalArgumentException {
        needIndex(f, FILES);
        needIndex(i, files[f].count);
        needArgument(isByte(b));
        int before = files[f].get(i);
        files[f].set(i, b);
        return before;
    }

    public int cut(int f, int n) throws IndexOutOfBoundsException, IllegalArgumentException {
        needIndex(f, FILES);
        needArgument(n >= 0);
        files[f].keep(n);
        return files[f].count;
    }

    public int join(int f, int from, int n, int to)
            throws IndexOutOfBoundsException, IllegalArgumentException, UnsupportedOperationException {
        needIndex(f, FILES);
        needIndex(to, FILES);
        needIndex(from, files[f].count);
        needArgument(n >= 0);
        int bytes = Math.min(n, files[f].count - from);
        needSupport(files[to].count + bytes <= FILE_BYTES);
        // a file joined to itself grows only behind the bytes that are still to be read
        for (int i = 0; i < bytes; i++) {
            files[to].add(files[f].get(from + i));
        }
        return bytes;
    }

    // ---- lines, waves, chunks, packed files

    public int lines(int k, int n, int turn, int near, int restart, int f)
            throws IndexOutOfBoundsException, IllegalStateException, IllegalArgumentException,
            UnsupportedOperationException {
        needIndex(k, PICTURES);
        needIndex(f, FILES);
        needArgument(isIn(n, 1, Lines.WRITTEN_MOST));
        needIndex(k + n - 1, PICTURES);
        for (int c = 0; c < n; c++) {
            needState(pictures[k + c].there && pictures[k + c].isLike(pictures[k]));
        }
        needArgument(isIn(turn, 0, 2) && isIn(near, 0, Lines.NEAR_MOST) && isIn(restart, 0, Lines.RESTART_MOST));
        doWork(1);
        lines.write(pictures, k, n, turn, near, restart, out);
        return store(f);
    }

    public int unline(int f, int k) throws IndexOutOfBoundsException, UnsupportedOperationException {
        needIndex(f, FILES);
        needIndex(k, PICTURES);
        doWork(1);
        ByteRow file = startReading(f);
        try {
            return lines.read(file, pictures, k);
        } catch (NoSuchElementException broken) {
            return brokenAt(file);
        }
    }

    public int waves(int k, int bits, int f)
            throws IndexOutOfBoundsException, IllegalStateException, IllegalArgumentException,
            UnsupportedOperationException {
        needIndex(f, FILES);
        Grid picture = pictureThere(k);
        needArgument(isIn(bits, 0, BITS_MOST));
        doWork(1);
        waves.write(picture, bits, out);
        return store(f);
    }

    public int unwave(int f, int bits, int k)
            throws IndexOutOfBoundsException, IllegalArgumentException, UnsupportedOperationException {
        needIndex(f, FILES);
        needIndex(k, PICTURES);
        needArgument(isIn(bits, 0, BITS_MOST));
        doWork(1);
        ByteRow file = startReading(f);
        try {
            return waves.read(file, bits, pictures[k]);
        } catch (NoSuchElementException broken) {
            return brokenAt(file);
        }
    }

    public int wave(int k, int x, int y)
            throws IndexOutOfBoundsException, IllegalStateException, UnsupportedOperationException {
        Grid picture = pictureThere(k);
        needSample(picture, x, y);
        doWork(1);
        return waves.waveAt(picture, x, y);
    }

    public int chunks(int k, int f)
            throws IndexOutOfBoundsException, IllegalStateException, UnsupportedOperationException {
        needIndex(f, FILES);
        Grid picture = pictureThere(k);
        doWork(1);
        chunks.write(picture, out);
        return store(f);
    }

    public int unchunk(int f, int k) throws IndexOutOfBoundsException, UnsupportedOperationException {
        needIndex(f, FILES);
        needIndex(k, PICTURES);
        doWork(1);
        ByteRow file = startReading(f);
        try {
            return chunks.read(file, pictures[k]);
        } catch (NoSuchElementException broken) {
            return brokenAt(file);
        }
    }

    public int pack(int f, int effort, int to)
            throws IndexOutOfBoundsException, IllegalStateException, IllegalArgumentException,
            UnsupportedOperationException {
        needIndex(f, FILES);
        needIndex(to, FILES);
        needState(files[f].count <= PACKED_BYTES);
        needArgument(isIn(effort, 0, Packs.EFFORT_MOST));
        doWork(1);
        packs.write(files[f], effort, out);
        return store(to);
    }

    public int unpack(int f, int to) throws IndexOutOfBoundsException, UnsupportedOperationException {
        needIndex(f, FILES);
        needIndex(to, FILES);
        doWork(1);
        ByteRow file = startReading(f);
        try {
            packs.read(file, out);
        } catch (NoSuchElementException broken) {
            return brokenAt(file);
        }
        return store(to);
    }

    // ---- halftones, texts, books

    public int halftone(int k, int side, int s)
            throws IndexOutOfBoundsException, IllegalStateException, IllegalArgumentException {
        needIndex(s, SHEETS);
        Grid picture = pictureThere(k);
        needArgument(isIn(side, 1, 2));
        return greys.drawHalftone(picture, side, sheets[s]);
    }

    public int shade(int s, int side, int k)
            throws IndexOutOfBoundsException, IllegalStateException, IllegalArgumentException {
        needIndex(k, PICTURES);
        Grid sheet = sheetThere(s);
        needArgument(isIn(side, 1, 3));
        needState(side > 0 && sheet.width % side == 0 && sheet.height % side == 0
                && sheet.width / side <= PICTURE_SIDE && sheet.height / side <= PICTURE_SIDE);
        return greys.drawShades(sheet, side, pictures[k]);
    }

    public int greys(int k, int side, int f)
            throws IndexOutOfBoundsException, IllegalStateException, IllegalArgumentException,
            UnsupportedOperationException {
        needIndex(f, FILES);
        Grid picture = pictureThere(k);
        needArgument(isIn(side, 1, 2));
        doWork(1);
        greys.write(picture, side, out);
        return store(f);
    }

    public int ungrey(int f, int k) throws IndexOutOfBoundsException, UnsupportedOperationException {
        needIndex(f, FILES);
        needIndex(k, PICTURES);
        doWork(1);
        ByteRow file = startReading(f);
        try {
            return greys.read(file, pictures[k]);
        } catch (NoSuchElementException broken) {
            return brokenAt(file);
        }
    }

    public int parts(int s, int what)
            throws IndexOutOfBoundsException, IllegalStateException, IllegalArgumentException {
        Grid sheet = sheetThere(s);
        needArgument(isIn(what, 0, 1));
        texts.study(sheet);
        return what == 0 ? texts.partCount : texts.symbolCount;
    }

    public int text(int s, int naming, int tries, int f)
            throws IndexOutOfBoundsException, IllegalStateException, IllegalArgumentException,
            UnsupportedOperationException {
        needIndex(f, FILES);
        Grid sheet = sheetThere(s);
        needArgument(isIn(naming, 0, 1) && isIn(tries, 0, Texts.TRIES_MOST));
        doWork(1);
        texts.study(sheet);
        if (!texts.hasText()) {
            return NONE;
        }
        texts.write(sheet, naming, tries, out);
        return store(f);
    }

    public int untext(int f, int s) throws IndexOutOfBoundsException, UnsupportedOperationException {
        needIndex(f, FILES);
        needIndex(s, SHEETS);
        doWork(1);
        ByteRow file = startReading(f);
        try {
            return texts.read(file, sheets[s]);
        } catch (NoSuchElementException broken) {
            return brokenAt(file);
        }
    }

    public int book(int s, int n, int order, int stripes, int f)
            throws IndexOutOfBoundsException, IllegalStateException, IllegalArgumentException,
            UnsupportedOperationException {
        needIndex(s, SHEETS);
        needIndex(f, FILES);
        needArgument(isIn(n, 1, SHEETS));
        needIndex(s + n - 1, SHEETS);
        for (int page = 0; page < n; page++) {
            needState(sheets[s + page].there);
        }
        needArgument(isIn(order, 0, 2) && isIn(stripes, 0, SHEET_SIDE));
        doWork(1);
        if (!books.write(sheets, s, n, order, stripes, out)) {
            return NONE;
        }
        return store(f);
    }

    public int unbook(int f, int order, int s)
            throws IndexOutOfBoundsException, IllegalArgumentException, UnsupportedOperationException {
        needIndex(f, FILES);
        needIndex(s, SHEETS);
        needArgument(isIn(order, 0, 2));
        doWork(1);
        ByteRow file = startReading(f);
        try {
            return books.read(file, order, sheets, s);
        } catch (NoSuchElementException broken) {
            return brokenAt(file);
        }
    }

    public int fault(int what) throws IllegalArgumentException {
        needArgument(isIn(what, 0, 1));
        return what == 0 ? faultNumber : faultPlace;
    }

    // ---- albums

    public int place(int k, int x, int y)
            throws IndexOutOfBoundsException, IllegalStateException, IllegalArgumentException,
            UnsupportedOperationException {
        Grid picture = pictureThere(k);
        needArgument(thisAlbum.holds(x, y, picture.width, picture.height));
        needState(thisAlbum.isFree(x, y, picture.width, picture.height));
        needSupport(thisAlbum.count < Album.TILES);
        return thisAlbum.addTile(k, x, y, picture.width, picture.height);
    }

    public int turn(int way) throws IllegalArgumentException {
        needArgument(isIn(way, 0, 7));
        return thisAlbum.turnBy(way);
    }

    public int crop(int x, int y, int w, int h) throws IllegalArgumentException {
        needArgument(thisAlbum.holds(x, y, w, h));
        return thisAlbum.cropTo(x, y, w, h);
    }

    public int near(int side) throws IndexOutOfBoundsException, IllegalStateException {
        needIndex(side, 4);
        needState(thisAlbum.refused);
        return thisAlbum.nearestBorder(side);
    }

    public int swap() {
        Album before = thisAlbum;
        thisAlbum = otherAlbum;
        otherAlbum = before;
        thisAlbum.startAnew();
        return thisAlbum.count;
    }

    public int attach(int side)
            throws IndexOutOfBoundsException, IllegalStateException, UnsupportedOperationException {
        needIndex(side, 4);
        boolean beside = side == 0 || side == 2;
        needState(beside ? thisAlbum.height == otherAlbum.height : thisAlbum.width == otherAlbum.width);
        int length = beside ? thisAlbum.width + otherAlbum.width : thisAlbum.height + otherAlbum.height;
        needSupport(length <= Album.SIDE_MOST && thisAlbum.count + otherAlbum.count <= Album.TILES);
        return thisAlbum.joinOn(otherAlbum, side);
    }

    public int tile(int t, int what) throws IndexOutOfBoundsException, IllegalArgumentException {
        needIndex(t, thisAlbum.count);
        needArgument(isIn(what, 0, 7));
        return thisAlbum.detail(t, what);
    }

    public int shown(int x, int y) throws IndexOutOfBoundsException {
        needIndex(x, thisAlbum.width);
        needIndex(y, thisAlbum.height);
        return thisAlbum.seenAt(pictures, x, y);
    }

    public int render(int x, int y, int w, int h, int k)
            throws IndexOutOfBoundsException, IllegalArgumentException {
        needIndex(k, PICTURES);
        needArgument(isIn(w, 1, PICTURE_SIDE) && isIn(h, 1, PICTURE_SIDE) && thisAlbum.holds(x, y, w, h));
        // drawn aside first: the picture that is made may be shown in the rectangle itself
        drawn.make(w, h, false);
        for (int row = 0; row < h; row++) {
            for (int column = 0; column < w; column++) {
                int seen = thisAlbum.seenAt(pictures, x + column, y + row);
                if (seen != NONE) {
                    drawn.setGrey(column, row, seen);
                    drawn.setMark(column, row, true);
                }
            }
        }
        pictures[k].take(drawn);
        return drawn.countMarks();
    }

    public int album(int f) throws IndexOutOfBoundsException, UnsupportedOperationException {
        needIndex(f, FILES);
        doWork(1);
        thisAlbum.write(out);
        return store(f);
    }

    // ---- batches

    public int need(int share, int s, int other, int m)
            throws IndexOutOfBoundsException, IllegalArgumentException, UnsupportedOperationException {
        needIndex(share, PICTURES);
        needIndex(other, PICTURES);
        needArgument(isIn(s, 0, Batch.STEP_MOST - 1) && isIn(m, 1, Batch.STEP_MOST) && other != share);
        needSupport(batch.needCount[share] < Batch.NEEDS);
        return batch.addNeed(share, s, other, m);
    }

    public int free(int share) throws IndexOutOfBoundsException {
        needIndex(share, PICTURES);
        int needs = batch.needCount[share];
        batch.needCount[share] = 0;
        return needs;
    }

    public int failing(int worker, int share, int s, int times)
            throws IndexOutOfBoundsException, IllegalArgumentException, UnsupportedOperationException {
        needIndex(share, PICTURES);
        needArgument(isIn(worker, 0, Batch.WORKERS - 1) && isIn(s, 0, Batch.STEP_MOST - 1) && isIn(times, 1, 9));
        needSupport(batch.failingCount < Batch.FAILINGS);
        return batch.addFailing(worker, share, s, times);
    }

    public int stop(int share) throws IndexOutOfBoundsException {
        if (share != NONE) {
            needIndex(share, PICTURES);
        }
        int before = batch.stopShare;
        batch.stopShare = share;
        return before;
    }

    public int batch(int workers, long seed, int form, int number)
            throws IllegalArgumentException, UnsupportedOperationException {
        needArgument(isIn(workers, 1, Batch.WORKERS) && isFormNumber(form, number));
        doWork(BATCH_WORK);
        int end = batch.run(pictures, workers, seed);
        if (end == 0 || end == 1) {
            for (int share = 0; share < PICTURES; share++) {
                if (batch.hasValue[share] && pictures[share].there) {
                    switch (form) {
                        case 0: lines.write(pictures, share, 1, 0, number, 0, out); break;
                        case 1: waves.write(pictures[share], number, out); break;
                        case 2: chunks.write(pictures[share], out); break;
                        default: greys.write(pictures[share], number, out); break;
                    }
                    store(share);
                }
            }
        }
        return end;
    }

    public long value(int share) throws IndexOutOfBoundsException, IllegalStateException {
        needIndex(share, PICTURES);
        needState(batch.hasValue[share]);
        return batch.values[share];
    }

    public int finished(int i) throws IndexOutOfBoundsException {
        needIndex(i, batch.finishedCount);
        return batch.finishedShare(i);
    }

    public int waited(int share, int other) throws IndexOutOfBoundsException {
        needIndex(share, PICTURES);
        needIndex(other, PICTURES);
        return batch.waits[share][other];
    }

    // ---- what is told

    public int size(int sort, int k, int what) throws IndexOutOfBoundsException, IllegalArgumentException {
        // without a sort nothing is counted, so no number is out of its bounds
        needArgument(isIn(sort, 0, 2));
        if (sort == 2) {
            needIndex(k, FILES);
            needArgument(what == 0);
            return files[k].count;
        }
        needIndex(k, sort == 0 ? PICTURES : SHEETS);
        needArgument(isIn(what, 0, 2));
        Grid grid = sort == 0 ? pictures[k] : sheets[k];
        if (what == 2) {
            return grid.countMarks();
        }
        if (!grid.there) {
            return NONE;
        }
        return what == 0 ? grid.width : grid.height;
    }

    public int told(int what) throws IllegalArgumentException {
        needArgument(isIn(what, 0, 16));
        switch (what) {
            case 0: return workDone;
            case 1: return thisAlbum.width;
            case 2: return thisAlbum.height;
            case 3: return thisAlbum.count;
            case 4: return otherAlbum.width;
            case 5: return otherAlbum.height;
            case 6: return otherAlbum.count;
            case 7: return batch.failingCount;
            case 8: return batch.stopShare;
            default: return batch.count(what);
        }
    }

    public void clear() {
        for (int k = 0; k < PICTURES; k++) {
            pictures[k].drop();
        }
        for (int s = 0; s < SHEETS; s++) {
            sheets[s].drop();
        }
        for (int f = 0; f < FILES; f++) {
            files[f].empty();
        }
        thisAlbum.reset();
        otherAlbum.reset();
        batch.reset();
        faultNumber = 0;
        faultPlace = NONE;
    }

    // ---- what the calls above share

    private static boolean isIn(int number, int least, int most) {
        return number >= least && number <= most;
    }

    private static boolean isByte(int number) {
        return isIn(number, 0, 255);
    }

    private static boolean isFormNumber(int form, int number) {
        switch (form) {
            case 0: return isIn(number, 0, Lines.NEAR_MOST);
            case 1: return isIn(number, 0, BITS_MOST);
            case 2: return number == 0;
            case 3: return isIn(number, 1, 2);
            default: return false;
        }
    }

    private static void needIndex(int i, int count) {
        if (i < 0 || i >= count) {
            throw new IndexOutOfBoundsException();
        }
    }

    private static void needState(boolean holds) {
        if (!holds) {
            throw new IllegalStateException();
        }
    }

    private static void needArgument(boolean holds) {
        if (!holds) {
            throw new IllegalArgumentException();
        }
    }

    private static void needSupport(boolean holds) {
        if (!holds) {
            throw new UnsupportedOperationException();
        }
    }

    private static void needSample(Grid grid, int x, int y) {
        needIndex(x, grid.width);
        needIndex(y, grid.height);
    }

    private Grid pictureThere(int k) {
        needIndex(k, PICTURES);
        needState(pictures[k].there);
        return pictures[k];
    }

    private Grid sheetThere(int s) {
        needIndex(s, SHEETS);
        needState(sheets[s].there);
        return sheets[s];
    }

    private void doWork(int amount) {
        needSupport(workDone + amount <= ALL_WORK);
        workDone += amount;
    }

    /** The file f gets what was written aside, if it is not too long. */
    private int store(int f) {
        if (out.count > FILE_BYTES || f < 0 || f >= FILES) {
            return NONE;
        }
        files[f].take(out);
        return out.count;
    }

    private ByteRow startReading(int f) {
        needIndex(f, FILES);
        faultNumber = 0;
        faultPlace = NONE;
        return files[f];
    }

    private int brokenAt(ByteRow file) {
        faultNumber = file.faultNumber;
        faultPlace = file.faultPlace;
        return -1 - faultPlace;
    }

    /** Samples in rows and columns: a picture's, with its shape as marks, or a sheet's, with the dark ones marked. */
    private static final class Grid {
        private final int[] value;
        private final boolean[] mark;
        private boolean there;
        private int width;
        private int height;

        Grid(int samples) {
            value = new int[Math.max(0, samples)];
            mark = new boolean[Math.max(0, samples)];
        }

        void drop() {
            there = false;
            width = 0;
            height = 0;
        }

        void make(int newWidth, int newHeight, boolean marked) {
            if (newWidth < 1 || newHeight < 1 || newWidth * newHeight > value.length) {
                return;
            }
            there = true;
            width = newWidth;
            height = newHeight;
            for (int i = 0; i < width * height; i++) {
                value[i] = 0;
                mark[i] = marked;
            }
        }

        void take(Grid from) {
            if (from == this) {
                return;
            }
            drop();
            if (!from.there) {
                return;
            }
            make(from.width, from.height, false);
            for (int y = 0; y < height; y++) {
                for (int x = 0; x < width; x++) {
                    setGrey(x, y, from.grey(x, y));
                    setMark(x, y, from.marked(x, y));
                }
            }
        }

        boolean has(int x, int y) {
            return x >= 0 && x < width && y >= 0 && y < height;
        }

        boolean isLike(Grid other) {
            return width == other.width && height == other.height;
        }

        int grey(int x, int y) {
            return has(x, y) ? value[y * width + x] : 0;
        }

        boolean marked(int x, int y) {
            return has(x, y) && mark[y * width + x];
        }

        void setGrey(int x, int y, int v) {
            if (has(x, y)) {
                value[y * width + x] = v;
            }
        }

        void setMark(int x, int y, boolean marked) {
            if (has(x, y)) {
                mark[y * width + x] = marked;
            }
        }

        int fillGreys(int x, int y, int n, int v) {
            int other = 0;
            for (int i = 0; i < n && x + i < width; i++) {
                if (grey(x + i, y) != v) {
                    other++;
                    setGrey(x + i, y, v);
                }
            }
            return other;
        }

        int fillMarks(int x, int y, int n, boolean marked) {
            int other = 0;
            for (int i = 0; i < n && x + i < width; i++) {
                if (marked(x + i, y) != marked) {
                    other++;
                    setMark(x + i, y, marked);
                }
            }
            return other;
        }

        /** What a sample becomes when one is laid on it: by or, and, differing, same, else that one. */
        static boolean laidOn(boolean before, boolean laid, int operator) {
            switch (operator) {
                case 0: return before || laid;
                case 1: return before && laid;
                case 2: return before != laid;
                case 3: return before == laid;
                default: return laid;
            }
        }

        int countMarks() {
            int marks = 0;
            for (int i = 0; i < width * height; i++) {
                if (mark[i]) {
                    marks++;
                }
            }
            return marks;
        }

        /** Numbers the parts of marked samples that touch by their sides, by first samples; NONE stands elsewhere. */
        int findParts(int[] part, int[] queue) {
            int samples = width * height;
            if (samples > part.length || samples > queue.length) {
                return 0;
            }
            for (int i = 0; i < samples; i++) {
                part[i] = NONE;
            }
            int parts = 0;
            for (int i = 0; i < samples; i++) {
                if (mark[i] && part[i] == NONE) {
                    spreadPart(i, parts, part, queue);
                    parts++;
                }
            }
            return parts;
        }

        private void spreadPart(int first, int number, int[] part, int[] queue) {
            if (width < 1) {
                return;
            }
            int end = reach(first % width, first / width, number, part, queue, 0);
            for (int next = 0; next < end && next < queue.length; next++) {
                int x = queue[next] % width;
                int y = queue[next] / width;
                end = reach(x - 1, y, number, part, queue, end);
                end = reach(x + 1, y, number, part, queue, end);
                end = reach(x, y - 1, number, part, queue, end);
                end = reach(x, y + 1, number, part, queue, end);
            }
        }

        private int reach(int x, int y, int number, int[] part, int[] queue, int end) {
            int i = y * width + x;
            if (!marked(x, y) || i >= part.length || end >= queue.length || part[i] != NONE) {
                return end;
            }
            part[i] = number;
            queue[end] = i;
            return end + 1;
        }
    }

    /** A row of bytes, with bits that are put behind it or taken from it, and the fault met in it. */
    private static final class ByteRow {
        private final int[] data;
        private int count;
        private boolean lowFirst;
        private int bitAt;
        private int bitEnd;
        private int endFault;
        private int endPlace;
        private int faultNumber;
        private int faultPlace;

        ByteRow(int capacity) {
            data = new int[Math.max(0, capacity)];
        }

        void empty() {
            count = 0;
        }

        /** Bytes beyond the capacity are counted only: a row that has more is never kept. */
        void add(int b) {
            if (count >= 0 && count < data.length) {
                data[count] = b & 255;
            }
            count++;
        }

        void addWide(int v) {
            add(v >> 8);
            add(v);
        }

        void addFour(int v) {
            addWide(v >> 16);
            addWide(v);
        }

        int get(int i) {
            return i >= 0 && i < count && i < data.length ? data[i] : 0;
        }

        void set(int i, int b) {
            if (i >= 0 && i < count && i < data.length) {
                data[i] = b & 255;
            }
        }

        int wide(int i) {
            return get(i) << 8 | get(i + 1);
        }

        long four(int i) {
            return (long) wide(i) << 16 | wide(i + 2);
        }

        void keep(int n) {
            if (n >= 0 && n < count) {
                count = n;
            }
        }

        void take(ByteRow from) {
            count = 0;
            for (int i = 0; i < from.count && i < data.length; i++) {
                data[i] = from.get(i);
                count++;
            }
        }

        void startPutting(boolean low, int most) {
            lowFirst = low;
            bitAt = 8 * count;
            bitEnd = most;
        }

        /** Puts the n lowest bits of v, the highest of them first. */
        void putBits(int v, int n) {
            for (int i = n - 1; i >= 0 && bitAt < bitEnd; i--) {
                if ((bitAt & 7) == 0) {
                    add(0);
                }
                // a shift by more than 31 would begin anew with the lowest bit
                if (i < 32 && (v >> i & 1) != 0) {
                    set(count - 1, get(count - 1) | 1 << bitShift());
                }
                bitAt++;
            }
        }

        /** Puts the n lowest bits of v, the lowest of them first. */
        void putLow(int v, int n) {
            for (int i = 0; i < n; i++) {
                putBits(v >> i, 1);
            }
        }

        /** Puts as many bits 0 as number, above 0, has behind its highest one, then its bits. */
        void putCounted(int number) {
            putBits(number, 2 * bitsOf(number) - 1);
        }

        void startTaking(int fromByte, int toBit, boolean low, int fault, int place) {
            lowFirst = low;
            bitAt = 8 * fromByte;
            bitEnd = toBit;
            endFault = fault;
            endPlace = place;
        }

        boolean hasBit() {
            return bitAt < bitEnd;
        }

        int takeBit() {
            if (bitAt >= bitEnd) {
                fail(endFault, endPlace);
            }
            int bit = get(bitAt >> 3) >> bitShift() & 1;
            bitAt++;
            return bit;
        }

        /** A number of n bits, the highest one first. */
        int takeBits(int n) {
            if (bitEnd - bitAt < n) {
                fail(endFault, endPlace);
            }
            int v = 0;
            for (int i = 0; i < n; i++) {
                v = v << 1 | get(bitAt >> 3) >> bitShift() & 1;
                bitAt++;
            }
            return v;
        }

        /** A number of n bits, the lowest one first. */
        int takeLow(int n) {
            if (bitEnd - bitAt < n) {
                fail(endFault, endPlace);
            }
            int v = 0;
            for (int i = 0; i < n; i++) {
                v |= (get(bitAt >> 3) >> bitShift() & 1) << i;
                bitAt++;
            }
            return v;
        }

        boolean isAtByte() {
            return (bitAt & 7) == 0;
        }

        int bytePlace() {
            return bitAt >> 3;
        }

        void skipToByte() {
            bitAt = bitAt + 7 & ~7;
        }

        private int bitShift() {
            return lowFirst ? bitAt & 7 : 7 - (bitAt & 7);
        }

        void fail(int number, int place) {
            faultNumber = number;
            faultPlace = place;
            throw new NoSuchElementException();
        }

        static int bitsOf(int number) {
            int bits = 0;
            for (int rest = number; rest > 0; rest >>= 1) {
                bits++;
            }
            return bits;
        }
    }

    /** A code of bits for symbols: made by counts or by lengths, shorter ones first, then by symbols. */
    private static final class Prefix {
        private static final int LENGTH_MOST = 15;
        private static final int FULL = 1 << LENGTH_MOST;

        private final int[] count;
        private final int[] length;
        private final int[] code;
        private final int[] sorted;
        private final int[] weight;
        private final int[] parent;
        private final int[] depth;
        private final int[] perLength = new int[LENGTH_MOST + 1];
        private int coded;

        Prefix(int symbols) {
            int size = Math.max(1, symbols);
            count = new int[size];
            length = new int[size];
            code = new int[size];
            sorted = new int[size];
            weight = new int[2 * size];
            parent = new int[2 * size];
            depth = new int[2 * size];
        }

        void forgetCounts() {
            for (int s = 0; s < count.length; s++) {
                count[s] = 0;
            }
        }

        void addCount(int s) {
            if (s >= 0 && s < count.length) {
                count[s]++;
            }
        }

        void setCount(int s, int v) {
            if (s >= 0 && s < count.length) {
                count[s] = v;
            }
        }

        int countOf(int s) {
            return s >= 0 && s < count.length ? count[s] : 0;
        }

        void forgetLengths() {
            for (int s = 0; s < length.length; s++) {
                length[s] = 0;
            }
        }

        void setLength(int s, int v) {
            if (s >= 0 && s < length.length) {
                length[s] = v;
            }
        }

        int lengthOf(int s) {
            return s >= 0 && s < length.length ? length[s] : 0;
        }

        /** One more than the last symbol that has a length. */
        int lengthsUsed() {
            int used = 0;
            for (int s = 0; s < length.length; s++) {
                if (length[s] > 0) {
                    used = s + 1;
                }
            }
            return used;
        }

        int longest() {
            int longest = 0;
            for (int s = 0; s < length.length; s++) {
                longest = Math.max(longest, length[s]);
            }
            return longest;
        }

        /** Lengths from counts: the two least are joined until one is left. */
        void joinLeast() {
            forgetLengths();
            int leaves = sortByCounts();
            if (leaves == 1) {
                setLength(sorted[0], 1);
                return;
            }
            int root = 2 * leaves - 2;
            int leaf = 0;
            int joined = leaves;
            for (int node = leaves; node <= root; node++) {
                weight[node] = 0;
                for (int pick = 0; pick < 2; pick++) {
                    // joined ones come in rising order, so the first of each row is its least
                    boolean isLeaf = leaf < leaves && (joined >= node || weight[leaf] <= weight[joined]);
                    int least = isLeaf ? leaf++ : joined++;
                    if (least < node) {
                        weight[node] += weight[least];
                        parent[least] = node;
                    }
                }
            }
            measureDepths(leaves, root);
        }

        private void measureDepths(int leaves, int root) {
            if (root < 0 || root >= depth.length) {
                return;
            }
            depth[root] = 0;
            for (int node = root - 1; node >= 0; node--) {
                int above = parent[node];
                depth[node] = above > node && above <= root ? depth[above] + 1 : 0;
                if (node < leaves && sorted[node] < length.length) {
                    length[sorted[node]] = depth[node];
                }
            }
        }

        /** Symbols that occur, by counts, of equal ones by number: how many. */
        private int sortByCounts() {
            int leaves = 0;
            for (int s = 0; s < count.length; s++) {
                if (count[s] > 0) {
                    int i = leaves;
                    for (; i > 0 && weight[i - 1] > count[s]; i--) {
                        weight[i] = weight[i - 1];
                        sorted[i] = sorted[i - 1];
                    }
                    weight[i] = count[s];
                    sorted[i] = s;
                    leaves++;
                }
            }
            return leaves;
        }

        /** How much of all codes the lengths take: FULL is all, more is too much. */
        int taken() {
            int taken = 0;
            for (int s = 0; s < length.length; s++) {
                if (length[s] > 0 && length[s] <= LENGTH_MOST) {
                    taken += FULL >> length[s];
                }
            }
            return taken;
        }

        boolean isFull() {
            return taken() == FULL;
        }

        boolean isEmpty() {
            return taken() == 0;
        }

        boolean isOneBit() {
            return taken() == FULL >> 1 && longest() == 1;
        }

        /** Codes from lengths; sorted has the symbols by their codes then. */
        void makeCodes() {
            coded = 0;
            int next = 0;
            for (int bits = 1; bits <= LENGTH_MOST; bits++) {
                next <<= 1;
                int before = coded;
                for (int s = 0; s < length.length && coded < sorted.length; s++) {
                    if (length[s] == bits) {
                        code[s] = next;
                        sorted[coded] = s;
                        next++;
                        coded++;
                    }
                }
                perLength[bits] = coded - before;
            }
        }

        void putSymbol(ByteRow row, int s) {
            if (s >= 0 && s < code.length) {
                row.putBits(code[s], length[s]);
            }
        }

        /** The symbol of the code that comes, or NONE as soon as no code begins so. */
        int takeSymbol(ByteRow row) {
            int bits = 0;
            int first = 0;
            int passed = 0;
            for (int n = 1; n <= LENGTH_MOST && passed < coded; n++) {
                bits = bits << 1 | row.takeBit();
                first <<= 1;
                int place = passed + bits - first;
                if (bits - first < perLength[n]) {
                    return place >= 0 && place < coded ? sorted[place] : NONE;
                }
                passed += perLength[n];
                first += perLength[n];
            }
            return NONE;
        }
    }

    /** Pictures as streams of lines. */
    private static final class Lines {
        private static final int WRITTEN_MOST = 3;
        private static final int NEAR_MOST = 3;
        private static final int RESTART_MOST = 12;
        private static final int COMPONENTS = 4;
        private static final int MARK_START = 0xD8;
        private static final int MARK_END = 0xD9;
        private static final int MARK_SCAN = 0xDA;
        private static final int MARK_RESTARTS = 0xDD;
        private static final int MARK_RESTART = 0xD0;
        private static final int MARK_FRAME = 0xF7;
        private static final int MARK_EXTRA = 0xF8;
        private static final int NOTES_MOST = 6;
        private static final int NOTE_BYTES = 30;
        private static final int ZEROS_MOST = 20;
        private static final int LONG_BITS = 9;

        private final int[][] told = new int[COMPONENTS][PICTURE_SAMPLES];
        private final int[] sum = new int[COMPONENTS];
        private final int[] number = new int[COMPONENTS];
        private final boolean[] scanned = new boolean[COMPONENTS];
        private final boolean[] tabled = new boolean[COMPONENTS];
        private ByteRow row = new ByteRow(1);
        private boolean reading;
        private int width;
        private int height;
        private int components;
        private int top;
        private int near;
        private int restart;
        private int reset;
        private int start;
        private int notes;
        private int place;
        private int current;
        private int left;

        void write(Grid[] pictures, int k, int n, int turn, int nearness, int rows, ByteRow out) {
            begin(out, false);
            row.empty();
            components = n;
            top = 255;
            near = nearness;
            restart = rows;
            for (int c = 0; c < n && c < COMPONENTS; c++) {
                if (k + c >= 0 && k + c < pictures.length) {
                    width = pictures[k + c].width;
                    height = pictures[k + c].height;
                    takeSamples(pictures[k + c], c);
                }
            }
            writeFrame();
            int scans = turn == 0 ? n : 1;
            for (int s = 0; s < scans; s++) {
                int last = turn == 0 ? s : n - 1;
                writeScanHead(s, last, n == 1 ? 0 : turn);
                scan(s, last, turn);
            }
            row.addWide(0xFF00 | MARK_END);
        }

        private void begin(ByteRow bytes, boolean read) {
            row = bytes;
            reading = read;
            components = 0;
            restart = 0;
            reset = 64;
            start = 4;
            notes = 0;
            place = 0;
            for (int c = 0; c < COMPONENTS; c++) {
                scanned[c] = false;
                tabled[c] = false;
            }
        }

        private void takeSamples(Grid picture, int c) {
            for (int y = 0; y < height; y++) {
                for (int x = 0; x < width; x++) {
                    setTold(c, x, y, picture.grey(x, y));
                }
            }
        }

        private void writeFrame() {
            row.addWide(0xFF00 | MARK_START);
            row.addWide(0xFF00 | MARK_FRAME);
            row.addWide(8 + 3 * components);
            row.add(8);
            row.addWide(height);
            row.addWide(width);
            row.add(components);
            for (int c = 0; c < components; c++) {
                row.add(c + 1);
                row.add(17);
                row.add(0);
            }
            if (restart != 0) {
                row.addWide(0xFF00 | MARK_RESTARTS);
                row.addWide(4);
                row.addWide(restart);
            }
        }

        private void writeScanHead(int first, int last, int turn) {
            row.addWide(0xFF00 | MARK_SCAN);
            row.addWide(6 + 2 * (last - first + 1));
            row.add(last - first + 1);
            for (int c = first; c <= last; c++) {
                row.add(c + 1);
                row.add(0);
            }
            row.add(near);
            row.add(turn);
            row.add(0);
        }

        /** Writes or reads the data of a scan of the components first .. last. */
        private void scan(int first, int last, int turn) {
            int parts = last - first + 1;
            if (parts < 1 || width < 1) {
                return;
            }
            beginPart();
            int restarts = 0;
            int firstRow = 0;
            for (int y = 0; y < height; y++) {
                if (restart > 0 && y > 0 && y % restart == 0) {
                    endPart();
                    passRestart(MARK_RESTART + (restarts & 7));
                    beginPart();
                    restarts++;
                    firstRow = y;
                }
                for (int i = 0; i < parts * width; i++) {
                    int c = first + (turn == 2 ? i % parts : i / width);
                    int x = turn == 2 ? i / parts : i % width;
                    if (reading) {
                        readSample(c, x, y, y == firstRow);
                    } else {
                        writeSample(c, x, y, y == firstRow);
                    }
                }
            }
            endPart();
        }

        private void beginPart() {
            for (int c = 0; c < COMPONENTS; c++) {
                sum[c] = start;
                number[c] = 1;
            }
            current = 0;
            left = 0;
        }

        private void writeSample(int c, int x, int y, boolean first) {
            int foretold = foretell(c, x, y, first);
            int step = stepSize();
            int more = toldAt(c, x, y) - foretold;
            int error = more > 0 ? (more + near) / step : -((near - more) / step);
            setTold(c, x, y, inRange(foretold + step * error));
            if (error < 0) {
                error += range();
            }
            if (error >= (range() + 1) / 2) {
                error -= range();
            }
            putMapped(error < 0 ? -2 * error - 1 : 2 * error, lowBits(c));
            learn(c, error);
        }

        private void readSample(int c, int x, int y, boolean first) {
            int foretold = foretell(c, x, y, first);
            int step = stepSize();
            int mapped = takeMapped(lowBits(c));
            int error = (mapped & 1) == 0 ? mapped / 2 : -((mapped + 1) / 2);
            int sample = foretold + step * error;
            if (sample < -near) {
                sample += step * range();
            } else if (sample > top + near) {
                sample -= step * range();
            }
            setTold(c, x, y, inRange(sample));
            learn(c, error);
        }

        private int stepSize() {
            return Math.max(1, 2 * near + 1);
        }

        private int range() {
            return (top + 2 * near) / Math.max(1, 2 * near + 1) + 1;
        }

        private int inRange(int sample) {
            return Math.max(0, Math.min(top, sample));
        }

        private int foretell(int c, int x, int y, boolean first) {
            int above = first ? 0 : toldAt(c, x, y - 1);
            int before = x == 0 ? above : toldAt(c, x - 1, y);
            int corner = x == 0 ? above : first ? 0 : toldAt(c, x - 1, y - 1);
            int lesser = Math.min(before, above);
            int greater = Math.max(before, above);
            if (corner >= greater) {
                return lesser;
            }
            return corner <= lesser ? greater : before + above - corner;
        }

        private int toldAt(int c, int x, int y) {
            if (c < 0 || c >= COMPONENTS || x < 0 || x >= PICTURE_SIDE || y < 0 || y >= PICTURE_SIDE) {
                return 0;
            }
            return told[c][y * PICTURE_SIDE + x];
        }

        private void setTold(int c, int x, int y, int v) {
            if (c >= 0 && c < COMPONENTS && x >= 0 && x < PICTURE_SIDE && y >= 0 && y < PICTURE_SIDE) {
                told[c][y * PICTURE_SIDE + x] = v;
            }
        }

        private int lowBits(int c) {
            if (c < 0 || c >= COMPONENTS) {
                return 0;
            }
            int k = 0;
            while (k < 12 && number[c] << k < sum[c]) {
                k++;
            }
            return k;
        }

        private void learn(int c, int error) {
            if (c < 0 || c >= COMPONENTS) {
                return;
            }
            if (number[c] == reset) {
                sum[c] /= 2;
                number[c] /= 2;
            }
            sum[c] += Math.abs(error);
            number[c]++;
        }

        private void putMapped(int mapped, int k) {
            boolean isShort = mapped >> k < ZEROS_MOST;
            int zeros = isShort ? mapped >> k : ZEROS_MOST;
            int bits = isShort ? k : LONG_BITS;
            for (int i = 0; i < zeros; i++) {
                putBit(0);
            }
            putBit(1);
            for (int i = bits - 1; i >= 0; i--) {
                putBit(mapped >> i & 1);
            }
        }

        private void putBit(int bit) {
            if (left == 0) {
                left = row.get(row.count - 1) == 255 ? 7 : 8;
                row.add(0);
            }
            left--;
            row.set(row.count - 1, row.get(row.count - 1) | bit << left);
        }

        private int takeMapped(int k) {
            int zeros = 0;
            while (zeros <= ZEROS_MOST && takeBit() == 0) {
                zeros++;
            }
            if (zeros > ZEROS_MOST) {
                row.fail(7, place - 1);
            }
            int mapped = zeros < ZEROS_MOST ? zeros : 0;
            int bits = zeros < ZEROS_MOST ? k : LONG_BITS;
            for (int i = 0; i < bits; i++) {
                mapped = mapped << 1 | takeBit();
            }
            return mapped;
        }

        private int takeBit() {
            if (left == 0) {
                boolean behindFull = current == 255;
                if (place >= row.count) {
                    row.fail(1, row.count);
                }
                current = row.get(place);
                if (behindFull && current >= 128) {
                    row.fail(7, place);
                }
                left = behindFull ? 7 : 8;
                place++;
            }
            left--;
            return current >> left & 1;
        }

        /** The byte is filled, and none that is 255 is the last one. */
        private void endPart() {
            if (!reading) {
                left = 0;
                if (row.get(row.count - 1) == 255) {
                    row.add(0);
                }
                return;
            }
            if ((current & (1 << left) - 1) != 0) {
                row.fail(7, place - 1);
            }
            if (current == 255) {
                if (place >= row.count) {
                    row.fail(1, row.count);
                }
                if (row.get(place) != 0) {
                    row.fail(7, place);
                }
                place++;
            }
        }

        private void passRestart(int code) {
            if (!reading) {
                row.addWide(0xFF00 | code);
                return;
            }
            if (row.count - place < 2) {
                row.fail(1, row.count);
            }
            if (row.wide(place) != (0xFF00 | code)) {
                row.fail(8, place);
            }
            place += 2;
        }

        int read(ByteRow file, Grid[] pictures, int k) {
            begin(file, true);
            int code = MARK_START;
            for (int marks = 0; marks <= FILE_BYTES && code != MARK_END; marks++) {
                int p = place;
                code = readMark(marks == 0);
                if (code != MARK_START && code != MARK_END) {
                    readSegment(code, p);
                }
                if (code == MARK_SCAN) {
                    readScan(p);
                }
            }
            if (place < row.count) {
                row.fail(9, place);
            }
            if (components > pictures.length - k) {
                row.fail(20, 0);
            }
            for (int c = 0; c < components; c++) {
                if (k + c >= 0 && k + c < pictures.length) {
                    giveSamples(pictures[k + c], c);
                }
            }
            return components;
        }

        private void giveSamples(Grid picture, int c) {
            if (top < 1) {
                return;
            }
            picture.make(width, height, true);
            for (int y = 0; y < height; y++) {
                for (int x = 0; x < width; x++) {
                    picture.setGrey(x, y, 255 * toldAt(c, x, y) / top);
                }
            }
        }

        private int readMark(boolean first) {
            int p = place;
            if (row.count - p < 2) {
                row.fail(1, row.count);
            }
            int code = row.get(p + 1);
            if (row.get(p) != 255 || !isKnown(code) || (code == MARK_START) != first) {
                row.fail(2, p);
            }
            if (!first && !isInOrder(code)) {
                row.fail(5, p);
            }
            place = p + 2;
            return code;
        }

        private static boolean isNote(int code) {
            return code >= 0xE0 && code <= 0xEF || code == 0xFE;
        }

        private static boolean isKnown(int code) {
            return isNote(code) || code == MARK_START || code == MARK_END || code == MARK_SCAN
                    || code == MARK_RESTARTS || code == MARK_FRAME || code == MARK_EXTRA;
        }

        private boolean isInOrder(int code) {
            int scans = 0;
            for (int c = 0; c < components && c < COMPONENTS; c++) {
                if (scanned[c]) {
                    scans++;
                }
            }
            if (isNote(code)) {
                return true;
            }
            if (code == MARK_FRAME) {
                return components == 0;
            }
            if (code == MARK_END) {
                return components > 0 && scans == components;
            }
            return components > 0 && (code == MARK_SCAN || scans == 0);
        }

        private void readSegment(int code, int p) {
            if (row.count - p < 4) {
                row.fail(1, row.count);
            }
            int length = row.wide(p + 2);
            if (length < 2) {
                row.fail(3, p);
            }
            place = p + 2 + length;
            if (place > row.count) {
                row.fail(1, row.count);
            }
            if (isNote(code)) {
                notes++;
                needValue(notes <= NOTES_MOST && length <= NOTE_BYTES + 2, p);
            } else if (code == MARK_FRAME) {
                readFrame(p, length);
            } else if (code == MARK_EXTRA) {
                readExtra(p, length);
            } else if (code == MARK_RESTARTS) {
                needLength(length == 4, p);
                needValue(row.wide(p + 4) <= RESTART_MOST, p);
                restart = row.wide(p + 4);
            } else {
                readScanHead(p, length);
            }
        }

        private void needLength(boolean holds, int p) {
            if (!holds) {
                row.fail(3, p);
            }
        }

        private void needValue(boolean holds, int p) {
            if (!holds) {
                row.fail(4, p);
            }
        }

        private void readFrame(int p, int length) {
            int parts = row.get(p + 9);
            needLength(length >= 8 && length == 8 + 3 * parts, p);
            int bits = row.get(p + 4);
            needValue(isIn(bits, 2, 8) && isIn(row.wide(p + 5), 1, PICTURE_SIDE)
                    && isIn(row.wide(p + 7), 1, PICTURE_SIDE) && isIn(parts, 1, COMPONENTS), p);
            for (int c = 0; c < parts; c++) {
                int at = p + 10 + 3 * c;
                needValue(row.get(at) == c + 1 && row.get(at + 1) == 17 && row.get(at + 2) == 0, p);
            }
            top = (1 << bits) - 1;
            height = row.wide(p + 5);
            width = row.wide(p + 7);
            components = parts;
        }

        private void readExtra(int p, int length) {
            needLength(length >= 3, p);
            int kind = row.get(p + 4);
            needValue(kind == 1 || kind == 2, p);
            if (kind == 1) {
                needLength(length == 5, p);
                needValue(row.get(p + 5) >= 3 && row.get(p + 6) >= 1, p);
                reset = row.get(p + 5);
                start = row.get(p + 6);
                return;
            }
            needLength(length == 5 + 2 * (top + 1), p);
            int c = row.get(p + 5) - 1;
            if (c < 0 || c >= components || c >= COMPONENTS) {
                row.fail(6, p);
                return;
            }
            if (tabled[c]) {
                row.fail(5, p);
            }
            needValue(row.get(p + 6) == 2, p);
            tabled[c] = true;
        }

        private void readScanHead(int p, int length) {
            needLength(length >= 3, p);
            int parts = row.get(p + 4);
            needLength(length == 6 + 2 * parts, p);
            needValue(parts == 1 || parts == components, p);
            for (int i = 0; i < parts; i++) {
                readScanPart(p, i, parts);
            }
            int behind = p + 5 + 2 * parts;
            int turn = row.get(behind + 1);
            needValue(row.get(behind) <= NEAR_MOST, p);
            needValue(parts == 1 ? turn == 0 : turn == 1 || turn == 2, p);
            needValue(row.get(behind + 2) == 0, p);
        }

        private void readScanPart(int p, int i, int parts) {
            int c = row.get(p + 5 + 2 * i) - 1;
            int table = row.get(p + 6 + 2 * i);
            if (c < 0 || c >= components || c >= COMPONENTS) {
                row.fail(6, p);
                return;
            }
            needValue(parts == 1 || c == i, p);
            if (scanned[c]) {
                row.fail(5, p);
            }
            needValue(table == 0 || table == c + 1 && tabled[c], p);
            scanned[c] = true;
        }

        /** The data behind a head that was found right. */
        private void readScan(int p) {
            int parts = row.get(p + 4);
            int first = row.get(p + 5) - 1;
            near = row.get(p + 5 + 2 * parts);
            scan(first, first + parts - 1, row.get(p + 6 + 2 * parts));
        }
    }

    /** Pictures as waves, bit by bit from the highest plane on. */
    private static final class Waves {
        private static final int OUTSIDE = 100000;
        private static final int SIDE_MOST = 16;
        private static final int SAMPLES = SIDE_MOST * SIDE_MOST;
        private static final int SQUARE = 8;
        private static final int PLANES_MOST = 20;
        private static final int ZEROS_MOST = 16;
        private static final int SHUT = 0;
        private static final int WAS_OPEN = 1;
        private static final int NOW_OPEN = 2;

        // a head may tell of more samples than a picture can have before that is found wrong
        private final Grid points = new Grid(SAMPLES);
        private final int[] part = new int[SAMPLES];
        private final int[] queue = new int[SAMPLES];
        private final boolean[] open = new boolean[4 + 16 + 64 + 256];
        private ByteRow row = new ByteRow(1);
        private boolean reading;
        private boolean ended;

        void write(Grid picture, int bits, ByteRow out) {
            points.take(picture);
            transform(false);
            row = out;
            reading = false;
            row.empty();
            row.startPutting(false, bits);
            int planes = ByteRow.bitsOf(greatestIn(0, 0, SIDE_MOST));
            row.putBits(points.width - 1, 4);
            row.putBits(points.height - 1, 4);
            row.putBits(planes, 5);
            writeRuns();
            passPlanes(planes);
        }

        int waveAt(Grid picture, int x, int y) {
            points.take(picture);
            transform(false);
            return points.marked(x, y) ? points.grey(x, y) : OUTSIDE;
        }

        int read(ByteRow file, int bits, Grid picture) {
            row = file;
            reading = true;
            row.startTaking(0, Math.min(bits, 8 * row.count), false, 1, 0);
            int width = row.takeBits(4) + 1;
            int height = row.takeBits(4) + 1;
            int planes = row.takeBits(5);
            if (planes > PLANES_MOST) {
                row.fail(1, 0);
            }
            points.make(width, height, false);
            readRuns();
            if (width > PICTURE_SIDE || height > PICTURE_SIDE) {
                row.fail(2, 0);
            }
            passPlanes(planes);
            int taken = row.bitAt;
            transform(true);
            bringInRange();
            picture.take(points);
            return taken;
        }

        private void bringInRange() {
            for (int y = 0; y < points.height; y++) {
                for (int x = 0; x < points.width; x++) {
                    points.setGrey(x, y, Math.max(0, Math.min(255, points.grey(x, y))));
                }
            }
        }

        private void writeRuns() {
            boolean inside = false;
            int run = 0;
            for (int y = 0; y < points.height; y++) {
                for (int x = 0; x < points.width; x++) {
                    if (points.marked(x, y) != inside) {
                        row.putCounted(run + 1);
                        inside = !inside;
                        run = 0;
                    }
                    run++;
                }
            }
            row.putCounted(run + 1);
        }

        private void readRuns() {
            int samples = points.width * points.height;
            int told = 0;
            for (int runs = 0; runs <= SAMPLES && told < samples; runs++) {
                int run = takeRun();
                if (run == 0 && runs > 0 || run > samples - told) {
                    row.fail(1, 0);
                }
                for (int i = 0; i < run; i++) {
                    setInside(told + i, (runs & 1) == 1);
                }
                told += run;
            }
        }

        private void setInside(int i, boolean inside) {
            if (points.width > 0) {
                points.setMark(i % points.width, i / points.width, inside);
            }
        }

        private int takeRun() {
            int zeros = 0;
            while (zeros <= ZEROS_MOST && row.takeBit() == 0) {
                zeros++;
            }
            if (zeros > ZEROS_MOST) {
                row.fail(1, 0);
            }
            return (1 << zeros | row.takeBits(zeros)) - 1;
        }

        private void transform(boolean back) {
            points.findParts(part, queue);
            for (int round = 0; round < 3; round++) {
                int step = back ? 4 >> round : 1 << round;
                liftLines(step, !back, back);
                liftLines(step, back, back);
            }
        }

        /** Lifts all rows, or all columns, of points that are a step apart. */
        private void liftLines(int step, boolean rows, boolean back) {
            int along = step * (rows ? 1 : points.width);
            int across = step * (rows ? points.width : 1);
            int lines = pointsIn(rows ? points.height : points.width, step);
            int length = pointsIn(rows ? points.width : points.height, step);
            for (int line = 0; line < lines; line++) {
                int place = 0;
                while (place < length) {
                    int first = line * across + place * along;
                    int count = 1;
                    while (place + count < length && isSamePart(first, first + count * along)) {
                        count++;
                    }
                    if (count > 1) {
                        liftRow(first, along, count, place, back);
                    }
                    place += count;
                }
            }
        }

        /** How many of so many samples are a step apart, from the first one on. */
        private static int pointsIn(int samples, int step) {
            return (samples + step - 1) / Math.max(1, step);
        }

        private boolean isSamePart(int one, int two) {
            return one >= 0 && two >= 0 && one < SAMPLES && two < SAMPLES
                    && part[one] != NONE && part[one] == part[two];
        }

        /** Each point of a row of two or more; only those at odd, or at even, places change at a time. */
        private void liftRow(int first, int stride, int count, int place, boolean back) {
            for (int half = 0; half < 2; half++) {
                boolean odd = back == (half == 1);
                for (int i = (place & 1) == (odd ? 1 : 0) ? 0 : 1; i < count; i += 2) {
                    int at = first + i * stride;
                    int before = pointAt(i > 0 ? at - stride : at + stride);
                    int behind = pointAt(i + 1 < count ? at + stride : at - stride);
                    int change = odd ? -(before + behind >> 1) : before + behind + 2 >> 2;
                    if (at >= 0 && at < SAMPLES) {
                        points.value[at] += back ? -change : change;
                    }
                }
            }
        }

        private int pointAt(int i) {
            return i >= 0 && i < SAMPLES ? points.value[i] : 0;
        }

        private void passPlanes(int planes) {
            ended = false;
            for (int i = 0; i < open.length; i++) {
                open[i] = false;
            }
            for (int plane = planes - 1; plane >= 0 && !ended; plane--) {
                for (int y = 0; y < points.height; y += SQUARE) {
                    for (int x = 0; x < points.width; x += SQUARE) {
                        passSquare(x, y, plane);
                    }
                }
            }
        }

        /** Goes through a square of 8 samples: its samples come by quarters of quarters of quarters. */
        private void passSquare(int left, int upper, int plane) {
            int i = 0;
            while (i < SQUARE * SQUARE) {
                int x = left + everySecondBit(i);
                int y = upper + everySecondBit(i >> 1);
                int state = WAS_OPEN;
                int passed = 1;
                // squares that begin here, the greatest first; one that stays shut is left whole
                for (int side = SQUARE; side >= 1 && state != SHUT; side /= 2) {
                    if (i % Math.max(1, side * side) == 0) {
                        state = openSquare(x, y, side, plane);
                        passed = state == SHUT ? side * side : 1;
                    }
                }
                if (state != SHUT) {
                    passPoint(x, y, plane, state == WAS_OPEN);
                }
                i += Math.max(1, passed);
            }
        }

        private static int everySecondBit(int i) {
            return i & 1 | i >> 1 & 2 | i >> 2 & 4;
        }

        /** Whether a square was open, is so now, or stays shut, when the bit that tells it has passed. */
        private int openSquare(int x, int y, int side, int plane) {
            if (ended || !hasPoints(x, y, side)) {
                return SHUT;
            }
            int i = openPlace(x, y, side);
            if (open[i]) {
                return WAS_OPEN;
            }
            open[i] = pass(!reading && greatestIn(x, y, side) >> plane != 0 ? 1 : 0) == 1;
            return open[i] ? NOW_OPEN : SHUT;
        }

        private void passPoint(int x, int y, int plane, boolean wasOpen) {
            int wave = points.grey(x, y);
            int bit = pass(wasOpen ? Math.abs(wave) >> plane & 1 : wave < 0 ? 1 : 0);
            if (!reading || ended) {
                return;
            }
            if (!wasOpen) {
                points.setGrey(x, y, bit == 1 ? -(1 << plane) : 1 << plane);
            } else if (bit == 1) {
                points.setGrey(x, y, wave < 0 ? wave - (1 << plane) : wave + (1 << plane));
            }
        }

        /** A bit is put, or, in reading, taken in its place, as long as there are some. */
        private int pass(int bit) {
            if (!reading) {
                row.putBits(bit, 1);
                return bit;
            }
            if (!row.hasBit()) {
                ended = true;
                return 0;
            }
            return row.takeBit();
        }

        private boolean hasPoints(int x, int y, int side) {
            for (int row = y; row < y + side && row < points.height; row++) {
                for (int column = x; column < x + side && column < points.width; column++) {
                    if (points.marked(column, row)) {
                        return true;
                    }
                }
            }
            return false;
        }

        /** The greatest wave without its sign in a square. */
        private int greatestIn(int x, int y, int side) {
            int greatest = 0;
            for (int row = y; row < y + side && row < points.height; row++) {
                for (int column = x; column < x + side && column < points.width; column++) {
                    if (points.marked(column, row)) {
                        greatest = Math.max(greatest, Math.abs(points.grey(column, row)));
                    }
                }
            }
            return greatest;
        }

        /** Squares of 8, 4, 2 and 1 samples have their marks one behind the other. */
        private int openPlace(int x, int y, int side) {
            if (side < 1 || side > SQUARE || x < 0 || x >= SIDE_MOST || y < 0 || y >= SIDE_MOST) {
                return 0;
            }
            int inRow = SIDE_MOST / side;
            int first = (inRow * inRow - 4) / 3;
            return first + y / side * inRow + x / side;
        }
    }

    /** Pictures as chunks. */
    private static final class Chunks {
        private static final int IHDR = 0x49484452;
        private static final int PLTE = 0x504C5445;
        private static final int IDAT = 0x49444154;
        private static final int IEND = 0x49454E44;
        private static final int GAMA = 0x67414D41;
        private static final int SRGB = 0x73524742;
        private static final int PHYS = 0x70485973;
        private static final int TRNS = 0x74524E53;
        private static final int SIGNATURE_HIGH = 0x89504E47;
        private static final int SIGNATURE_LOW = 0x0D0A1A0A;
        private static final int PIECE = 60;
        private static final int DATA_MOST = 255;
        private static final int EXTRAS_MOST = 6;
        private static final int EXTRA_BYTES = 40;
        private static final int ENTRIES_MOST = 64;
        private static final int PALETTE = 3;

        private final ByteRow rows = new ByteRow(FILE_BYTES);
        private final int[] entryGrey = new int[ENTRIES_MOST];
        private final int[] entryAlpha = new int[ENTRIES_MOST];
        private ByteRow row = new ByteRow(1);
        private int width;
        private int height;
        private int bits;
        private int kind;
        private int entries;
        private int chunkCount;
        private int extras;
        private boolean gammaSeen;
        private boolean colourSeen;
        private boolean scaleSeen;
        private boolean paletteSeen;
        private boolean alphasSeen;
        private boolean dataSeen;
        private boolean dataOver;

        void write(Grid picture, ByteRow out) {
            row = out;
            row.empty();
            row.addFour(SIGNATURE_HIGH);
            row.addFour(SIGNATURE_LOW);
            boolean whole = picture.countMarks() == picture.width * picture.height;
            kind = whole ? 0 : 4;
            bits = whole ? fewestBits(picture) : 8;
            writeRows(picture);
            int begun = beginChunk(IHDR, 13);
            row.addFour(picture.width);
            row.addFour(picture.height);
            row.add(bits);
            row.add(kind);
            row.add(0);
            row.addWide(0);
            endChunk(begun);
            for (int from = 0; from < rows.count; from += PIECE) {
                int length = Math.min(PIECE, rows.count - from);
                begun = beginChunk(IDAT, length);
                for (int i = 0; i < length; i++) {
                    row.add(rows.get(from + i));
                }
                endChunk(begun);
            }
            endChunk(beginChunk(IEND, 0));
        }

        private int beginChunk(int letters, int length) {
            row.addFour(length);
            row.addFour(letters);
            return row.count - 4;
        }

        private void endChunk(int begun) {
            row.addFour(sumOf(begun, row.count));
        }

        private int sumOf(int from, int to) {
            int sum = -1;
            for (int i = from; i < to; i++) {
                sum ^= row.get(i);
                for (int bit = 0; bit < 8; bit++) {
                    sum = (sum & 1) != 0 ? sum >>> 1 ^ 0xEDB88320 : sum >>> 1;
                }
            }
            return ~sum;
        }

        private static int fewestBits(Grid picture) {
            for (int fewest = 1; fewest < 8; fewest *= 2) {
                if (isWhole(picture, 255 / greatest(fewest))) {
                    return fewest;
                }
            }
            return 8;
        }

        private static int greatest(int bits) {
            return Math.max(1, (1 << bits) - 1);
        }

        private static boolean isWhole(Grid picture, int unit) {
            for (int y = 0; y < picture.height; y++) {
                for (int x = 0; x < picture.width; x++) {
                    if (picture.grey(x, y) % Math.max(1, unit) != 0) {
                        return false;
                    }
                }
            }
            return true;
        }

        private void writeRows(Grid picture) {
            int unit = Math.max(1, 255 / greatest(bits));
            rows.empty();
            for (int y = 0; y < picture.height; y++) {
                rows.add(0);
                rows.startPutting(false, 8 * FILE_BYTES);
                for (int x = 0; x < picture.width; x++) {
                    rows.putBits(picture.grey(x, y) / unit, bits);
                    if (kind == 4) {
                        rows.putBits(picture.marked(x, y) ? 255 : 0, 8);
                    }
                }
            }
        }

        int read(ByteRow file, Grid picture) {
            begin(file);
            int p = 8;
            int letters = 0;
            for (int i = 0; i <= FILE_BYTES && letters != IEND; i++) {
                int length = readFrame(p);
                letters = (int) row.four(p + 4);
                boolean isRight = (int) row.four(p + 8 + length) == sumOf(p + 4, p + 8 + length);
                if (!isRight && isGreat(letters)) {
                    row.fail(4, p);
                }
                if (isRight) {
                    readOrder(letters, p);
                    readValue(letters, p, length);
                    chunkCount++;
                }
                // a chunk that is left out parts data, too
                dataOver = dataOver || dataSeen && letters != IDAT;
                p += 12 + length;
            }
            picture.make(width, height, true);
            takeSamples(picture);
            return chunkCount;
        }

        private void begin(ByteRow file) {
            row = file;
            if ((int) row.four(0) != SIGNATURE_HIGH || (int) row.four(4) != SIGNATURE_LOW) {
                row.fail(1, 0);
            }
            rows.empty();
            entries = 0;
            chunkCount = 0;
            extras = 0;
            gammaSeen = false;
            colourSeen = false;
            scaleSeen = false;
            paletteSeen = false;
            alphasSeen = false;
            dataSeen = false;
            dataOver = false;
        }

        /** How many bytes of data the chunk at p has. */
        private int readFrame(int p) {
            int left = row.count - p;
            if (left < 12) {
                row.fail(1, p);
            }
            if (row.four(p) > DATA_MOST) {
                row.fail(2, p);
            }
            int length = (int) row.four(p);
            if (left < 12 + length) {
                row.fail(1, p);
            }
            for (int i = 4; i < 8; i++) {
                int letter = row.get(p + i);
                if (!isIn(letter, 'A', 'Z') && (!isIn(letter, 'a', 'z') || i == 6)) {
                    row.fail(3, p);
                }
            }
            return length;
        }

        private static boolean isGreat(int letters) {
            return (letters & 0x20000000) == 0;
        }

        private void readOrder(int letters, int p) {
            boolean isRight = (letters == IHDR) == (chunkCount == 0);
            switch (letters) {
                case GAMA: isRight = isRight && !dataSeen && !gammaSeen && !paletteSeen; break;
                case SRGB: isRight = isRight && !dataSeen && !colourSeen && !paletteSeen; break;
                case PHYS: isRight = isRight && !dataSeen && !scaleSeen; break;
                case PLTE: isRight = isRight && !dataSeen && !paletteSeen && kind != 0 && kind != 4; break;
                case TRNS: isRight = isRight && !dataSeen && !alphasSeen && paletteSeen; break;
                case IDAT: isRight = isRight && !dataOver && (kind != PALETTE || paletteSeen); break;
                case IEND: isRight = isRight && dataSeen; break;
                default: break;
            }
            if (!isRight) {
                row.fail(5, p);
            }
        }

        private void readValue(int letters, int p, int length) {
            int at = p + 8;
            boolean isRight;
            switch (letters) {
                case IHDR: isRight = readHead(at, length); break;
                case GAMA: isRight = length == 4 && isAboveZero(at); gammaSeen = true; break;
                case SRGB: isRight = length == 1 && row.get(at) <= 3; colourSeen = true; break;
                case PHYS: isRight = readScale(at, length); break;
                case PLTE: isRight = readPalette(at, length); break;
                case TRNS: isRight = readAlphas(at, length); break;
                case IDAT: isRight = true; keepData(at, length); break;
                case IEND: isRight = length == 0; break;
                default: isRight = readExtra(letters, p, length); break;
            }
            if (!isRight) {
                row.fail(7, p);
            }
            if (letters == IEND && !areRowsRight()) {
                row.fail(8, p);
            }
        }

        private boolean isAboveZero(int at) {
            return row.four(at) >= 1 && row.four(at) <= Integer.MAX_VALUE;
        }

        private boolean readHead(int at, int length) {
            width = row.four(at) <= PICTURE_SIDE ? (int) row.four(at) : 0;
            height = row.four(at + 4) <= PICTURE_SIDE ? (int) row.four(at + 4) : 0;
            bits = row.get(at + 8);
            kind = row.get(at + 9);
            boolean isKind = kind == 0 || kind == 2 || kind == PALETTE || kind == 4 || kind == 6;
            boolean isFew = bits == 1 || bits == 2 || bits == 4;
            return length == 13 && width > 0 && height > 0 && isKind
                    && (bits == 8 || isFew && (kind == 0 || kind == PALETTE))
                    && row.get(at + 10) == 0 && row.wide(at + 11) == 0;
        }

        private boolean readScale(int at, int length) {
            scaleSeen = true;
            return length == 9 && isAboveZero(at) && row.four(at) == row.four(at + 4) && row.get(at + 8) == 1;
        }

        private boolean readPalette(int at, int length) {
            paletteSeen = true;
            entries = length / 3;
            if (length % 3 != 0 || entries < 1 || entries > ENTRIES_MOST || entries > 1 << bits) {
                return false;
            }
            for (int i = 0; i < entries; i++) {
                entryGrey[i] = (row.get(at + 3 * i) + row.get(at + 3 * i + 1) + row.get(at + 3 * i + 2)) / 3;
                entryAlpha[i] = 255;
            }
            return true;
        }

        private boolean readAlphas(int at, int length) {
            alphasSeen = true;
            if (kind != PALETTE || length < 1 || length > entries) {
                return false;
            }
            for (int i = 0; i < length && i < ENTRIES_MOST; i++) {
                entryAlpha[i] = row.get(at + i);
            }
            return true;
        }

        private void keepData(int at, int length) {
            dataSeen = true;
            for (int i = 0; i < length; i++) {
                rows.add(row.get(at + i));
            }
        }

        private boolean readExtra(int letters, int p, int length) {
            if (isGreat(letters)) {
                row.fail(6, p);
            }
            extras++;
            return length <= EXTRA_BYTES && extras <= EXTRAS_MOST;
        }

        private int channels() {
            switch (kind) {
                case 2: return 3;
                case 4: return 2;
                case 6: return 4;
                default: return 1;
            }
        }

        private int rowBytes() {
            return 1 + (width * channels() * bits + 7) / 8;
        }

        private boolean areRowsRight() {
            if (rows.count != height * rowBytes()) {
                return false;
            }
            for (int y = 0; y < height; y++) {
                if (rows.get(y * rowBytes()) != 0) {
                    return false;
                }
                rows.startTaking(y * rowBytes() + 1, 8 * rows.count, false, 0, 0);
                for (int i = 0; i < width * channels(); i++) {
                    int sample = rows.takeBits(bits);
                    if (kind == PALETTE && sample >= entries) {
                        return false;
                    }
                }
                int rest = 8 * (rowBytes() - 1) - width * channels() * bits;
                if (rows.takeBits(rest) != 0) {
                    return false;
                }
            }
            return true;
        }

        private void takeSamples(Grid picture) {
            for (int y = 0; y < height; y++) {
                rows.startTaking(y * rowBytes() + 1, 8 * rows.count, false, 0, 0);
                for (int x = 0; x < width; x++) {
                    takeSample(picture, x, y);
                }
            }
        }

        private void takeSample(Grid picture, int x, int y) {
            int first = rows.takeBits(bits);
            int grey = 255 * first / greatest(bits);
            int alpha = 255;
            if (kind == PALETTE) {
                boolean isEntry = first < entries && first < ENTRIES_MOST;
                grey = isEntry ? entryGrey[first] : 0;
                alpha = isEntry ? entryAlpha[first] : 0;
            } else if (kind == 2 || kind == 6) {
                grey = (first + rows.takeBits(8) + rows.takeBits(8)) / 3;
            }
            if (kind == 4 || kind == 6) {
                alpha = rows.takeBits(8);
            }
            picture.setGrey(x, y, grey);
            picture.setMark(x, y, alpha != 0);
        }
    }

    /** Packed files. */
    private static final class Packs {
        private static final int EFFORT_MOST = 9;
        private static final int GREEDY_MOST = 3;
        private static final int LAZY_MOST = 6;
        private static final int BLOCK = 128;
        private static final int BLOCKS_MOST = PACKED_BYTES / BLOCK;
        private static final int MATCH_LEAST = 3;
        private static final int MATCH_MOST = 258;
        private static final int LITERALS = 288;
        private static final int DISTANCES = 32;
        private static final int LITERALS_TOLD = 286;
        private static final int DISTANCES_TOLD = 30;
        private static final int END = 256;
        private static final int LENGTHS = 19;
        private static final int LENGTH_BITS_MOST = 7;
        private static final int STORED = 0;
        private static final int FIXED = 1;
        private static final int OWN = 2;
        private static final int SUM_MODULUS = 65521;
        private static final int NO_LENGTH_PRICE = 12;
        private static final int NO_DISTANCE_PRICE = 6;
        private static final int PACKED_LEAST = 9;
        private static final int PACKED_MOST = 1208;
        private static final int[] LENGTH_BASE = {
            3, 4, 5, 6, 7, 8, 9, 10, 11, 13, 15, 17, 19, 23, 27, 31,
            35, 43, 51, 59, 67, 83, 99, 115, 131, 163, 195, 227, 258};
        private static final int[] LENGTH_EXTRA = {
            0, 0, 0, 0, 0, 0, 0, 0, 1, 1, 1, 1, 2, 2, 2, 2,
            3, 3, 3, 3, 4, 4, 4, 4, 5, 5, 5, 5, 0};
        private static final int[] DISTANCE_BASE = {
            1, 2, 3, 4, 5, 7, 9, 13, 17, 25, 33, 49, 65, 97, 129, 193, 257, 385, 513, 769,
            1025, 1537, 2049, 3073, 4097, 6145, 8193, 12289, 16385, 24577};
        private static final int[] DISTANCE_EXTRA = {
            0, 0, 0, 0, 1, 1, 2, 2, 3, 3, 4, 4, 5, 5, 6, 6, 7, 7, 8, 8,
            9, 9, 10, 10, 11, 11, 12, 12, 13, 13};
        private static final int[] LENGTHS_ORDER = {
            16, 17, 18, 0, 8, 7, 9, 6, 10, 5, 11, 4, 12, 3, 13, 2, 14, 1, 15};

        private final Prefix fixedLiterals = new Prefix(LITERALS);
        private final Prefix fixedDistances = new Prefix(DISTANCES);
        private final Prefix literals = new Prefix(LITERALS);
        private final Prefix distances = new Prefix(DISTANCES);
        private final Prefix lengths = new Prefix(LENGTHS);
        // the nearest place before with the same three bytes
        private final int[] same = new int[PACKED_BYTES];
        private final int[] matchLength = new int[PACKED_BYTES];
        private final int[] matchDistance = new int[PACKED_BYTES];
        // how many bytes the token at a place takes: at hand, and as a round tries it
        private final int[] token = new int[PACKED_BYTES];
        private final int[] tried = new int[PACKED_BYTES];
        private final int[] price = new int[PACKED_BYTES + 1];
        private final int[] lengthRow = new int[LITERALS + DISTANCES];
        private final int[] toldSymbol = new int[LITERALS + DISTANCES];
        private final int[] toldExtra = new int[LITERALS + DISTANCES];
        private final int[] blockEnd = new int[BLOCKS_MOST + 1];
        private final int[] blockBits = new int[BLOCKS_MOST + 1];
        private ByteRow source = new ByteRow(1);
        private ByteRow row = new ByteRow(1);
        private int effort;
        private int toldCount;
        private int kind;

        Packs() {
            for (int s = 0; s < LITERALS; s++) {
                fixedLiterals.setLength(s, s < 144 ? 8 : s < 256 ? 9 : s < 280 ? 7 : 8);
            }
            for (int s = 0; s < DISTANCES; s++) {
                fixedDistances.setLength(s, 5);
            }
            fixedLiterals.makeCodes();
            fixedDistances.makeCodes();
        }

        void write(ByteRow file, int howMuch, ByteRow out) {
            source = file;
            row = out;
            effort = howMuch;
            row.empty();
            if (source.count > PACKED_BYTES) {
                return;
            }
            row.add('P');
            row.add(effort);
            row.addWide(source.count);
            row.startPutting(true, Integer.MAX_VALUE);
            linkSame();
            int blocks = Math.max(1, (source.count + BLOCK - 1) / BLOCK);
            chooseBlocks(blocks);
            for (int block = 0; block < blocks; block = Math.max(block + 1, blockEnd[block])) {
                int to = placeOf(blockEnd[block]);
                prepare(placeOf(block), to);
                row.putBits(blockEnd[block] == blocks ? 1 : 0, 1);
                writeBlock(placeOf(block), to);
            }
            row.addFour(sumOf(source));
        }

        private static int sumOf(ByteRow bytes) {
            int a = 1;
            int b = 0;
            for (int i = 0; i < bytes.count; i++) {
                a = (a + bytes.get(i)) % SUM_MODULUS;
                b = (b + a) % SUM_MODULUS;
            }
            return b << 16 | a;
        }

        private int placeOf(int block) {
            return Math.min(source.count, block * BLOCK);
        }

        private void linkSame() {
            for (int p = 0; p < source.count && p < same.length; p++) {
                int q = p - 1;
                while (q >= 0 && !isSameAt(q, p)) {
                    q--;
                }
                same[p] = q;
            }
        }

        private boolean isSameAt(int q, int p) {
            return source.get(q) == source.get(p) && source.get(q + 1) == source.get(p + 1)
                    && source.get(q + 2) == source.get(p + 2);
        }

        /** From the last block back: where the block that begins there ends, with the fewest bits from it on. */
        private void chooseBlocks(int blocks) {
            if (blocks > BLOCKS_MOST) {
                return;
            }
            blockBits[blocks] = 0;
            for (int block = blocks - 1; block >= 0; block--) {
                blockEnd[block] = blocks;
                blockBits[block] = Integer.MAX_VALUE;
                for (int end = block + 1; end <= blocks; end++) {
                    int bits = prepare(placeOf(block), placeOf(end)) + blockBits[end];
                    if (bits < blockBits[block]) {
                        blockBits[block] = bits;
                        blockEnd[block] = end;
                    }
                }
            }
        }

        /** Leaves a block's tokens, kind and codes: how many bits it has. */
        private int prepare(int from, int to) {
            if (effort == 0) {
                kind = STORED;
                return storedBits(to - from);
            }
            findMatches(from, to);
            chooseTokens(from, to);
            int bits = measure(token, from, to);
            for (int round = LAZY_MOST; round < effort; round++) {
                priceTokens(from, to);
                int triedBits = measure(tried, from, to);
                if (triedBits >= bits) {
                    // the prices stay, so each further round would find the same tokens
                    return measure(token, from, to);
                }
                bits = triedBits;
                for (int p = from; p < to && p < PACKED_BYTES; p++) {
                    token[p] = tried[p];
                }
            }
            return bits;
        }

        private static int storedBits(int bytes) {
            return 42 + 8 * bytes;
        }

        private void findMatches(int from, int to) {
            for (int p = from; p < to && p < PACKED_BYTES; p++) {
                int most = Math.min(MATCH_MOST, to - p);
                matchLength[p] = 0;
                int q = most < MATCH_LEAST ? NONE : same[p];
                for (int i = 0; i < 4 * effort && q >= 0 && q < p && matchLength[p] < most; i++) {
                    int length = alike(q, p, most);
                    if (length > matchLength[p]) {
                        matchLength[p] = length;
                        matchDistance[p] = p - q;
                    }
                    q = same[q];
                }
            }
        }

        private int alike(int q, int p, int most) {
            int length = 0;
            while (length < most && source.get(q + length) == source.get(p + length)) {
                length++;
            }
            return length;
        }

        private int matchAt(int p, int to) {
            return p < to && p < PACKED_BYTES ? matchLength[p] : 0;
        }

        private void chooseTokens(int from, int to) {
            int p = from;
            while (p < to && p < PACKED_BYTES) {
                boolean isLiteral = matchLength[p] < MATCH_LEAST
                        || effort > GREEDY_MOST && matchAt(p + 1, to) > matchLength[p];
                token[p] = isLiteral ? 1 : matchLength[p];
                p += Math.max(1, token[p]);
            }
        }

        /** The cheapest tokens by the codes of those at hand. */
        private void priceTokens(int from, int to) {
            if (from < 0 || to > PACKED_BYTES) {
                return;
            }
            price[to] = 0;
            for (int p = to - 1; p >= from; p--) {
                price[p] = literalPrice(source.get(p)) + price[p + 1];
                tried[p] = 1;
                int distancePrice = distancePrice(matchDistance[p]);
                int symbol = END + 1;
                for (int length = MATCH_LEAST; length <= matchLength[p] && p + length <= to; length++) {
                    if (lengthBase(symbol + 1) == length) {
                        symbol++;
                    }
                    int sum = literalPrice(symbol) + extraOfLength(symbol) + distancePrice + price[p + length];
                    if (sum < price[p]) {
                        price[p] = sum;
                        tried[p] = length;
                    }
                }
            }
        }

        private int literalPrice(int symbol) {
            int length = literals.lengthOf(symbol);
            return length > 0 ? length : NO_LENGTH_PRICE;
        }

        private int distancePrice(int distance) {
            int symbol = distanceSymbol(distance);
            int length = distances.lengthOf(symbol);
            return (length > 0 ? length : NO_DISTANCE_PRICE) + extraOfDistance(symbol);
        }

        private static int lengthSymbol(int length) {
            int i = LENGTH_BASE.length - 1;
            while (i > 0 && LENGTH_BASE[i] > length) {
                i--;
            }
            return END + 1 + i;
        }

        private static int distanceSymbol(int distance) {
            int i = DISTANCE_BASE.length - 1;
            while (i > 0 && DISTANCE_BASE[i] > distance) {
                i--;
            }
            return i;
        }

        private static int extraOfLength(int symbol) {
            int i = symbol - END - 1;
            return i >= 0 && i < LENGTH_EXTRA.length ? LENGTH_EXTRA[i] : 0;
        }

        private static int extraOfDistance(int symbol) {
            return symbol >= 0 && symbol < DISTANCE_EXTRA.length ? DISTANCE_EXTRA[symbol] : 0;
        }

        private static int lengthBase(int symbol) {
            int i = symbol - END - 1;
            return i >= 0 && i < LENGTH_BASE.length ? LENGTH_BASE[i] : 0;
        }

        private static int distanceBase(int symbol) {
            return symbol >= 0 && symbol < DISTANCE_BASE.length ? DISTANCE_BASE[symbol] : 0;
        }

        /** Makes the own codes of a block's tokens and its kind: how many bits it has. */
        private int measure(int[] tokens, int from, int to) {
            countSymbols(tokens, from, to);
            literals.joinLeast();
            distances.joinLeast();
            tellLengths();
            int told = joinLengths();
            int bits = storedBits(to - from);
            kind = STORED;
            int fixed = 3 + tokenBits(fixedLiterals, fixedDistances);
            if (fixed < bits) {
                bits = fixed;
                kind = FIXED;
            }
            int own = 3 + told + tokenBits(literals, distances);
            if (own < bits) {
                bits = own;
                kind = OWN;
            }
            return bits;
        }

        private void countSymbols(int[] tokens, int from, int to) {
            literals.forgetCounts();
            distances.forgetCounts();
            literals.addCount(END);
            int p = from;
            while (p >= 0 && p < to && p < tokens.length && p < PACKED_BYTES) {
                if (tokens[p] < MATCH_LEAST) {
                    literals.addCount(source.get(p));
                    p++;
                } else {
                    literals.addCount(lengthSymbol(tokens[p]));
                    distances.addCount(distanceSymbol(matchDistance[p]));
                    p += tokens[p];
                }
            }
        }

        private int tokenBits(Prefix literalCode, Prefix distanceCode) {
            int bits = 0;
            for (int s = 0; s < LITERALS; s++) {
                bits += literals.countOf(s) * (literalCode.lengthOf(s) + extraOfLength(s));
            }
            for (int s = 0; s < DISTANCES; s++) {
                bits += distances.countOf(s) * (distanceCode.lengthOf(s) + extraOfDistance(s));
            }
            return bits;
        }

        private int literalsTold() {
            return Math.max(END + 1, literals.lengthsUsed());
        }

        private int distancesTold() {
            return Math.max(1, distances.lengthsUsed());
        }

        /** The row of both codes' lengths, told by runs. */
        private void tellLengths() {
            int before = literalsTold();
            int all = before + distancesTold();
            for (int i = 0; i < all && i < lengthRow.length; i++) {
                lengthRow[i] = i < before ? literals.lengthOf(i) : distances.lengthOf(i - before);
            }
            toldCount = 0;
            int from = 0;
            while (from < all && from < lengthRow.length) {
                int to = from + 1;
                while (to < all && to < lengthRow.length && lengthRow[to] == lengthRow[from]) {
                    to++;
                }
                tellRun(lengthRow[from], to - from);
                from = to;
            }
        }

        private void tellRun(int length, int run) {
            int left = run;
            if (length == 0) {
                while (left >= 11) {
                    int some = Math.min(138, left);
                    tellSymbol(18, some - 11);
                    left -= some;
                }
                if (left >= 3) {
                    tellSymbol(17, left - 3);
                    left = 0;
                }
            } else {
                tellSymbol(length, 0);
                left--;
                while (left >= 3) {
                    int some = Math.min(6, left);
                    tellSymbol(16, some - 3);
                    left -= some;
                }
            }
            for (int i = 0; i < left; i++) {
                tellSymbol(length, 0);
            }
        }

        private void tellSymbol(int symbol, int extra) {
            if (toldCount >= 0 && toldCount < toldSymbol.length) {
                toldSymbol[toldCount] = symbol;
                toldExtra[toldCount] = extra;
                toldCount++;
            }
        }

        private static int extraOfTold(int symbol) {
            switch (symbol) {
                case 16: return 2;
                case 17: return 3;
                case 18: return 7;
                default: return 0;
            }
        }

        /** Makes the code of the lengths: how many bits it and the row take. */
        private int joinLengths() {
            lengths.forgetCounts();
            for (int i = 0; i < toldCount && i < toldSymbol.length; i++) {
                lengths.addCount(toldSymbol[i]);
            }
            lengths.joinLeast();
            int bits = 0;
            for (int s = 0; s < LENGTHS; s++) {
                bits += lengths.countOf(s) * extraOfTold(s);
            }
            for (int i = 0; i < 20 && lengths.longest() > LENGTH_BITS_MOST; i++) {
                for (int s = 0; s < LENGTHS; s++) {
                    lengths.setCount(s, (lengths.countOf(s) + 1) / 2);
                }
                lengths.joinLeast();
            }
            for (int i = 0; i < toldCount && i < toldSymbol.length; i++) {
                bits += lengths.lengthOf(toldSymbol[i]);
            }
            return 14 + 3 * lengthsTold() + bits;
        }

        private int lengthsTold() {
            int told = 4;
            for (int i = 0; i < LENGTHS_ORDER.length; i++) {
                if (lengths.lengthOf(LENGTHS_ORDER[i]) > 0) {
                    told = Math.max(told, i + 1);
                }
            }
            return told;
        }

        private void writeBlock(int from, int to) {
            row.putLow(kind, 2);
            if (kind == STORED) {
                row.skipToByte();
                row.putLow(to - from, 16);
                row.putLow(~(to - from), 16);
                for (int p = from; p < to; p++) {
                    row.putLow(source.get(p), 8);
                }
            } else if (kind == FIXED) {
                writeTokens(fixedLiterals, fixedDistances, from, to);
            } else {
                literals.makeCodes();
                distances.makeCodes();
                lengths.makeCodes();
                writeLengths();
                writeTokens(literals, distances, from, to);
            }
        }

        private void writeLengths() {
            row.putLow(literalsTold() - END - 1, 5);
            row.putLow(distancesTold() - 1, 5);
            row.putLow(lengthsTold() - 4, 4);
            for (int i = 0; i < lengthsTold() && i < LENGTHS_ORDER.length; i++) {
                row.putLow(lengths.lengthOf(LENGTHS_ORDER[i]), 3);
            }
            for (int i = 0; i < toldCount && i < toldSymbol.length; i++) {
                lengths.putSymbol(row, toldSymbol[i]);
                row.putLow(toldExtra[i], extraOfTold(toldSymbol[i]));
            }
        }

        private void writeTokens(Prefix literalCode, Prefix distanceCode, int from, int to) {
            int p = from;
            while (p >= 0 && p < to && p < PACKED_BYTES) {
                if (token[p] < MATCH_LEAST) {
                    literalCode.putSymbol(row, source.get(p));
                    p++;
                } else {
                    int symbol = lengthSymbol(token[p]);
                    literalCode.putSymbol(row, symbol);
                    row.putLow(token[p] - lengthBase(symbol), extraOfLength(symbol));
                    symbol = distanceSymbol(matchDistance[p]);
                    distanceCode.putSymbol(row, symbol);
                    row.putLow(matchDistance[p] - distanceBase(symbol), extraOfDistance(symbol));
                    p += token[p];
                }
            }
            literalCode.putSymbol(row, END);
        }

        void read(ByteRow file, ByteRow out) {
            source = file;
            row = out;
            row.empty();
            int bytes = source.count;
            if (bytes < PACKED_LEAST || bytes > PACKED_MOST || source.get(0) != 'P'
                    || source.get(1) > EFFORT_MOST) {
                source.fail(1, 0);
            }
            source.startTaking(4, 8 * (bytes - 4), true, 3, bytes);
            boolean isLast = false;
            for (int i = 0; i <= 8 * PACKED_MOST && !isLast; i++) {
                isLast = readBlock();
            }
            if (row.count != source.wide(2)) {
                source.fail(4, 2);
            }
            if ((int) source.four(bytes - 4) != sumOf(row)) {
                source.fail(5, bytes - 4);
            }
        }

        /** Whether it is the last one. */
        private boolean readBlock() {
            int first = source.bytePlace();
            boolean isLast = source.takeBit() == 1;
            kind = source.takeLow(2);
            if (kind == STORED) {
                readStored();
            } else if (kind == FIXED) {
                readTokens(fixedLiterals, fixedDistances);
            } else if (kind == OWN) {
                readCodes(first);
                readTokens(literals, distances);
            } else {
                source.fail(2, first);
            }
            return isLast;
        }

        private void readStored() {
            source.skipToByte();
            int place = source.bytePlace();
            int bytes = source.takeLow(16);
            if (source.takeLow(16) != (~bytes & 0xFFFF)) {
                source.fail(2, place);
            }
            for (int i = 0; i < bytes; i++) {
                giveByte(source.takeLow(8));
            }
        }

        private void giveByte(int b) {
            if (row.count >= FILE_BYTES) {
                source.fail(3, source.count);
            }
            row.add(b);
        }

        private void readCodes(int first) {
            int place = source.bytePlace();
            int literalsRead = source.takeLow(5) + END + 1;
            if (literalsRead > LITERALS_TOLD) {
                source.fail(2, place);
            }
            place = source.bytePlace();
            int distancesRead = source.takeLow(5) + 1;
            if (distancesRead > DISTANCES_TOLD) {
                source.fail(2, place);
            }
            int lengthsRead = source.takeLow(4) + 4;
            lengths.forgetLengths();
            for (int i = 0; i < lengthsRead && i < LENGTHS_ORDER.length; i++) {
                lengths.setLength(LENGTHS_ORDER[i], source.takeLow(3));
            }
            if (!lengths.isFull()) {
                source.fail(2, first);
            }
            lengths.makeCodes();
            readLengthRow(literalsRead, literalsRead + distancesRead, first);
            if (!distances.isFull() && !distances.isEmpty() && !distances.isOneBit()) {
                source.fail(2, first);
            }
            literals.makeCodes();
            distances.makeCodes();
        }

        private void readLengthRow(int literalsRead, int all, int first) {
            literals.forgetLengths();
            distances.forgetLengths();
            int at = 0;
            int before = NONE;
            for (int told = 0; told < all && at < all; told++) {
                int place = source.bytePlace();
                int symbol = lengths.takeSymbol(source);
                if (symbol == NONE || symbol == 16 && at == 0) {
                    source.fail(2, place);
                }
                int times = timesOf(symbol);
                before = symbol < 16 ? symbol : symbol == 16 ? before : 0;
                for (int i = 0; i < times; i++) {
                    if (at >= all) {
                        source.fail(2, place);
                    }
                    layLength(at, before, literalsRead, first);
                    at++;
                }
            }
        }

        private int timesOf(int symbol) {
            switch (symbol) {
                case 16: return 3 + source.takeLow(2);
                case 17: return 3 + source.takeLow(3);
                case 18: return 11 + source.takeLow(7);
                default: return 1;
            }
        }

        private void layLength(int at, int length, int literalsRead, int first) {
            if (at >= literalsRead) {
                distances.setLength(at - literalsRead, length);
                return;
            }
            literals.setLength(at, length);
            // this set is looked at as soon as it is whole
            if (at == literalsRead - 1 && (!literals.isFull() || literals.lengthOf(END) == 0)) {
                source.fail(2, first);
            }
        }

        private void readTokens(Prefix literalCode, Prefix distanceCode) {
            int symbol = NONE;
            for (int i = 0; i <= 8 * PACKED_MOST && symbol != END; i++) {
                int place = source.bytePlace();
                symbol = literalCode.takeSymbol(source);
                if (symbol == NONE || symbol >= LITERALS_TOLD) {
                    source.fail(2, place);
                }
                if (symbol < END) {
                    giveByte(symbol);
                } else if (symbol > END) {
                    readMatch(symbol, place, distanceCode);
                }
            }
        }

        private void readMatch(int symbol, int place, Prefix distanceCode) {
            int length = lengthBase(symbol) + source.takeLow(extraOfLength(symbol));
            int distancePlace = source.bytePlace();
            int distanceSymbol = distanceCode.takeSymbol(source);
            if (distanceSymbol == NONE || distanceSymbol >= DISTANCES_TOLD) {
                source.fail(2, distancePlace);
            }
            int distance = distanceBase(distanceSymbol) + source.takeLow(extraOfDistance(distanceSymbol));
            if (distance > row.count) {
                source.fail(2, place);
            }
            for (int i = 0; i < length; i++) {
                giveByte(row.get(row.count - distance));
            }
        }
    }

    /** Halftones and shades, and pictures as greys. */
    private static final class Greys {
        private static final int PLANES_MOST = 3;
        private static final int CONTEXTS = 64;
        private static final int STATE_MOST = 7;
        private static final int STATE_LEAST = -8;
        private static final int RUNS_MOST = 32;
        private static final int LOW_BITS_MOST = 8;
        private static final int ONES_MOST = 12;
        private static final int LONG_BITS = 13;
        private static final int HEAD = 4;

        private final int[][] bit = new int[PLANES_MOST][PICTURE_SAMPLES];
        private final int[] state = new int[CONTEXTS];
        private ByteRow row = new ByteRow(1);
        private boolean reading;
        private int side;
        private int width;
        private int height;
        private int sum;
        private int runs;
        private int run;
        private boolean runBegun;
        private int left;

        int drawHalftone(Grid picture, int q, Grid sheet) {
            sheet.make(q * picture.width, q * picture.height, false);
            for (int y = 0; y < sheet.height; y++) {
                for (int x = 0; x < sheet.width; x++) {
                    int grey = greyOf(picture, x / Math.max(1, q), y / Math.max(1, q), q);
                    sheet.setMark(x, y, rankOf(x % Math.max(1, q), y % Math.max(1, q)) < grey);
                }
            }
            return sheet.countMarks();
        }

        private static int greyOf(Grid picture, int x, int y, int q) {
            return picture.marked(x, y) ? ((255 - picture.grey(x, y)) * q * q + 127) / 255 : 0;
        }

        private static int rankOf(int column, int row) {
            return row == column ? row : column == 1 ? 2 : 3;
        }

        /** The sample of so many dark cells, of so many. */
        private static int sampleOf(int dark, int cells) {
            return 255 - 255 * dark / Math.max(1, cells);
        }

        int drawShades(Grid sheet, int q, Grid picture) {
            if (q < 1) {
                return 0;
            }
            picture.make(sheet.width / q, sheet.height / q, true);
            int all = 0;
            for (int y = 0; y < picture.height; y++) {
                for (int x = 0; x < picture.width; x++) {
                    int dark = 0;
                    for (int i = 0; i < q * q; i++) {
                        if (sheet.marked(x * q + i % q, y * q + i / q)) {
                            dark++;
                        }
                    }
                    picture.setGrey(x, y, sampleOf(dark, q * q));
                    all += sampleOf(dark, q * q);
                }
            }
            return all;
        }

        void write(Grid picture, int q, ByteRow out) {
            begin(out, false, q, picture.width, picture.height);
            row.empty();
            row.add('H');
            row.add(side);
            row.add(width);
            row.add(height);
            row.startPutting(false, Integer.MAX_VALUE);
            for (int y = 0; y < height; y++) {
                for (int x = 0; x < width; x++) {
                    int grey = greyOf(picture, x, y, q);
                    for (int plane = 0; plane < planes(); plane++) {
                        setBit(plane, x, y, (grey ^ grey >> 1) >> plane & 1);
                    }
                }
            }
            passPlanes();
            putRun();
        }

        int read(ByteRow file, Grid picture) {
            if (file.count < HEAD || file.get(0) != 'H' || !isIn(file.get(1), 1, 2)
                    || !isIn(file.get(2), 1, PICTURE_SIDE) || !isIn(file.get(3), 1, PICTURE_SIDE)) {
                file.fail(1, 0);
            }
            begin(file, true, file.get(1), file.get(2), file.get(3));
            row.startTaking(HEAD, 8 * file.count, false, 11, HEAD);
            passPlanes();
            if (!runBegun) {
                takeRun();
            }
            passRest();
            if (greatestGrey() > side * side) {
                row.fail(14, HEAD);
            }
            picture.make(width, height, true);
            for (int y = 0; y < height; y++) {
                for (int x = 0; x < width; x++) {
                    picture.setGrey(x, y, sampleOf(greyAt(x, y), side * side));
                }
            }
            return width * height;
        }

        private int greatestGrey() {
            int greatest = 0;
            for (int y = 0; y < height; y++) {
                for (int x = 0; x < width; x++) {
                    greatest = Math.max(greatest, greyAt(x, y));
                }
            }
            return greatest;
        }

        private void begin(ByteRow bytes, boolean read, int q, int wide, int high) {
            row = bytes;
            reading = read;
            side = q;
            width = wide;
            height = high;
            sum = 4;
            runs = 1;
            run = 0;
            runBegun = false;
            left = planes() * width * height;
        }

        private int planes() {
            return side == 1 ? 1 : PLANES_MOST;
        }

        private int bitAt(int plane, int x, int y) {
            if (plane < 0 || plane >= planes() || x < 0 || x >= width || y < 0 || y >= height) {
                return 0;
            }
            return bit[plane][y * PICTURE_SIDE + x];
        }

        private void setBit(int plane, int x, int y, int v) {
            if (plane >= 0 && plane < PLANES_MOST && x >= 0 && x < PICTURE_SIDE && y >= 0 && y < PICTURE_SIDE) {
                bit[plane][y * PICTURE_SIDE + x] = v;
            }
        }

        private int greyAt(int x, int y) {
            int grey = 0;
            int above = 0;
            for (int plane = planes() - 1; plane >= 0; plane--) {
                above ^= bitAt(plane, x, y);
                grey = grey << 1 | above;
            }
            return grey;
        }

        private void passPlanes() {
            for (int plane = planes() - 1; plane >= 0; plane--) {
                for (int context = 0; context < CONTEXTS; context++) {
                    state[context] = -1;
                }
                for (int y = 0; y < height; y++) {
                    for (int x = 0; x < width; x++) {
                        passBit(plane, x, y);
                    }
                }
            }
        }

        private void passBit(int plane, int x, int y) {
            int context = bitAt(plane, x - 1, y) | bitAt(plane, x - 2, y) << 1 | bitAt(plane, x - 1, y - 1) << 2
                    | bitAt(plane, x, y - 1) << 3 | bitAt(plane, x + 1, y - 1) << 4 | bitAt(plane + 1, x, y) << 5;
            if (context < 0 || context >= CONTEXTS) {
                return;
            }
            int before = state[context];
            int foretold = before >= 0 ? 1 : 0;
            if (reading) {
                setBit(plane, x, y, takesForetold() ? foretold : 1 - foretold);
            } else if (bitAt(plane, x, y) == foretold) {
                run++;
            } else {
                putRun();
            }
            if (bitAt(plane, x, y) == 1) {
                state[context] = Math.min(STATE_MOST, before + (before < 0 ? 2 : 1));
            } else {
                state[context] = Math.max(STATE_LEAST, before - (before < 0 ? 1 : 2));
            }
        }

        /** Whether the bit that comes is as foretold; a run is read when its first bit is wanted. */
        private boolean takesForetold() {
            if (!runBegun) {
                takeRun();
                runBegun = true;
            }
            left--;
            if (run == 0) {
                runBegun = false;
                return false;
            }
            run--;
            return true;
        }

        private int lowBits() {
            int k = 0;
            while (k < LOW_BITS_MOST && runs << k < sum) {
                k++;
            }
            return k;
        }

        private void learn() {
            sum += run;
            runs++;
            if (runs == RUNS_MOST) {
                sum /= 2;
                runs /= 2;
            }
        }

        private void putRun() {
            int k = lowBits();
            boolean isShort = run >> k < ONES_MOST;
            int ones = isShort ? run >> k : ONES_MOST;
            row.putBits(-1, ones);
            if (isShort) {
                row.putBits(0, 1);
            }
            row.putBits(run, isShort ? k : LONG_BITS);
            learn();
            run = 0;
        }

        private void takeRun() {
            int k = lowBits();
            int ones = 0;
            while (ones < ONES_MOST && row.takeBit() == 1) {
                ones++;
            }
            run = ones < ONES_MOST ? ones << k | row.takeBits(k) : row.takeBits(LONG_BITS);
            if (run > left) {
                row.fail(12, HEAD);
            }
            learn();
        }

        private void passRest() {
            for (int i = 0; i < 8 && !row.isAtByte(); i++) {
                if (row.takeBit() == 1) {
                    row.fail(13, HEAD);
                }
            }
            if (row.hasBit()) {
                row.fail(13, HEAD);
            }
        }
    }

    /** Sheets as texts of symbols. */
    private static final class Texts {
        private static final int TRIES_MOST = 8;
        private static final int PARTS_MOST = SHEET_SAMPLES / 2;
        private static final int BOX_SIDE = 8;
        private static final int SYMBOLS_MOST = 16;
        private static final int INSTANCES_MOST = 40;
        private static final int PLACE_LEAST = -8;
        private static final int PLACE_MOST = 31;
        private static final int ZEROS_MOST = 12;
        private static final int FIRST_STRIP = 16;
        private static final int LEFT = 0;
        private static final int UPPER = 1;
        private static final int RIGHT = 2;
        private static final int LOWER = 3;

        private int partCount;
        // NONE if some box is too big
        private int symbolCount;
        private final int[] part = new int[SHEET_SAMPLES];
        private final int[] queue = new int[SHEET_SAMPLES];
        private final int[][] box = new int[4][PARTS_MOST];
        // the rows of a box, a byte each, the first one highest
        private final long[] partDots = new long[PARTS_MOST];
        private final int[] symbolOf = new int[PARTS_MOST];
        private final int[] symbolWidth = new int[PARTS_MOST];
        private final int[] symbolHeight = new int[PARTS_MOST];
        private final long[] dots = new long[PARTS_MOST];
        private final int[] order = new int[INSTANCES_MOST];
        private final Prefix names = new Prefix(SYMBOLS_MOST);
        private final int[] front = new int[SYMBOLS_MOST];
        private final Grid page = new Grid(SHEET_SAMPLES);
        private ByteRow row = new ByteRow(1);
        private int naming;
        private int logStrip;
        private boolean turned;
        private int corner;
        private int operator;

        /** Finds a sheet's parts and symbols. */
        void study(Grid sheet) {
            partCount = Math.min(PARTS_MOST, sheet.findParts(part, queue));
            findBoxes(sheet);
            symbolCount = 0;
            for (int i = 0; i < partCount; i++) {
                if (boxWidth(i) > BOX_SIDE || boxHeight(i) > BOX_SIDE) {
                    symbolCount = NONE;
                    return;
                }
            }
            findDots(sheet);
            for (int i = 0; i < partCount; i++) {
                symbolOf[i] = findSymbol(i);
            }
        }

        boolean hasText() {
            return symbolCount != NONE && symbolCount <= SYMBOLS_MOST && partCount <= INSTANCES_MOST;
        }

        private int boxWidth(int i) {
            return i >= 0 && i < PARTS_MOST ? box[RIGHT][i] - box[LEFT][i] + 1 : 0;
        }

        private int boxHeight(int i) {
            return i >= 0 && i < PARTS_MOST ? box[LOWER][i] - box[UPPER][i] + 1 : 0;
        }

        private int partAt(Grid sheet, int x, int y) {
            if (!sheet.marked(x, y)) {
                return NONE;
            }
            int i = y * sheet.width + x;
            return i >= 0 && i < SHEET_SAMPLES && part[i] < partCount ? part[i] : NONE;
        }

        private void findBoxes(Grid sheet) {
            for (int i = 0; i < partCount && i < PARTS_MOST; i++) {
                box[LEFT][i] = SHEET_SIDE;
                box[UPPER][i] = SHEET_SIDE;
                box[RIGHT][i] = NONE;
                box[LOWER][i] = NONE;
            }
            for (int y = 0; y < sheet.height; y++) {
                for (int x = 0; x < sheet.width; x++) {
                    int i = partAt(sheet, x, y);
                    if (i >= 0 && i < PARTS_MOST) {
                        box[LEFT][i] = Math.min(box[LEFT][i], x);
                        box[UPPER][i] = Math.min(box[UPPER][i], y);
                        box[RIGHT][i] = Math.max(box[RIGHT][i], x);
                        box[LOWER][i] = Math.max(box[LOWER][i], y);
                    }
                }
            }
        }

        private static long dot(int column, int row) {
            return 1L << 8 * (BOX_SIDE - 1 - row) + BOX_SIDE - 1 - column;
        }

        private void findDots(Grid sheet) {
            for (int i = 0; i < PARTS_MOST; i++) {
                partDots[i] = 0;
            }
            for (int y = 0; y < sheet.height; y++) {
                for (int x = 0; x < sheet.width; x++) {
                    int i = partAt(sheet, x, y);
                    if (i >= 0 && i < PARTS_MOST) {
                        partDots[i] |= dot(x - box[LEFT][i], y - box[UPPER][i]);
                    }
                }
            }
        }

        private int findSymbol(int i) {
            if (i < 0 || i >= PARTS_MOST) {
                return 0;
            }
            for (int s = 0; s < symbolCount && s < PARTS_MOST; s++) {
                if (symbolWidth[s] == boxWidth(i) && symbolHeight[s] == boxHeight(i) && dots[s] == partDots[i]) {
                    return s;
                }
            }
            if (symbolCount < 0 || symbolCount >= PARTS_MOST) {
                return 0;
            }
            symbolWidth[symbolCount] = boxWidth(i);
            symbolHeight[symbolCount] = boxHeight(i);
            dots[symbolCount] = partDots[i];
            symbolCount++;
            return symbolCount - 1;
        }

        /** The text of the sheet that was studied. */
        void write(Grid sheet, int howNamed, int tries, ByteRow out) {
            row = out;
            naming = howNamed;
            names.forgetCounts();
            for (int i = 0; i < partCount && i < INSTANCES_MOST; i++) {
                order[i] = i;
                names.addCount(symbolOf[i]);
            }
            names.joinLeast();
            names.makeCodes();
            int bits = writeAll(sheet);
            boolean changed = true;
            for (int t = 0; t < tries && changed; t++) {
                changed = false;
                for (int i = 0; i + 1 < partCount && i + 1 < INSTANCES_MOST; i++) {
                    if (upperOf(i) == upperOf(i + 1)) {
                        swapOrder(i);
                        int fewer = writeAll(sheet);
                        if (fewer < bits) {
                            bits = fewer;
                            changed = true;
                        } else {
                            swapOrder(i);
                        }
                    }
                }
            }
            writeAll(sheet);
        }

        private void swapOrder(int i) {
            if (i >= 0 && i + 1 < INSTANCES_MOST) {
                int before = order[i];
                order[i] = order[i + 1];
                order[i + 1] = before;
            }
        }

        /** The part that is the i-th instance. */
        private int partOf(int i) {
            return i >= 0 && i < INSTANCES_MOST && isIn(order[i], 0, PARTS_MOST - 1) ? order[i] : 0;
        }

        private int upperOf(int i) {
            return box[UPPER][partOf(i)];
        }

        private int leftOf(int i) {
            return box[LEFT][partOf(i)];
        }

        /** How many bits the file has then. */
        private int writeAll(Grid sheet) {
            row.empty();
            row.add('T');
            row.add(naming);
            row.add(sheet.width);
            row.add(sheet.height);
            row.add(symbolCount);
            for (int s = 0; s < symbolCount && s < SYMBOLS_MOST; s++) {
                row.add(symbolWidth[s]);
                row.add(symbolHeight[s]);
                for (int y = 0; y < symbolHeight[s]; y++) {
                    row.add(rowOfDots(dots[s], y));
                }
            }
            row.startPutting(false, Integer.MAX_VALUE);
            row.putCounted(partCount + 1);
            row.putBits(0, 8);
            for (int s = 0; s < symbolCount && naming == 0; s++) {
                row.putBits(names.lengthOf(s), 4);
            }
            beginNames();
            int firstLeft = 0;
            for (int i = 0; i < partCount; i++) {
                if (i > 0 && upperOf(i) == upperOf(i - 1)) {
                    row.putBits(1, 1);
                    putSigned(leftOf(i) - leftOf(i - 1) - boxWidth(partOf(i - 1)));
                } else {
                    row.putCounted(i == 0 ? upperOf(i) + FIRST_STRIP + 1 : upperOf(i) - upperOf(i - 1));
                    putSigned(leftOf(i) - firstLeft);
                    firstLeft = leftOf(i);
                }
                putName(symbolOf[partOf(i)]);
                row.putBits(0, 1);
                if (i + 1 == partCount || upperOf(i + 1) != upperOf(i)) {
                    row.putBits(0, 1);
                }
            }
            return row.bitAt;
        }

        private static int rowOfDots(long dots, int y) {
            return (int) (dots >>> 8 * (BOX_SIDE - 1 - y)) & 255;
        }

        private void putSigned(int v) {
            row.putCounted((v >= 0 ? 2 * v : -2 * v - 1) + 1);
        }

        private void beginNames() {
            for (int s = 0; s < SYMBOLS_MOST; s++) {
                front[s] = s;
            }
        }

        private void putName(int symbol) {
            if (naming == 0) {
                names.putSymbol(row, symbol);
                return;
            }
            int place = 0;
            while (place < SYMBOLS_MOST - 1 && front[place] != symbol) {
                place++;
            }
            row.putCounted(place + 1);
            moveToFront(place);
        }

        private int moveToFront(int place) {
            if (place < 0 || place >= SYMBOLS_MOST) {
                return 0;
            }
            int symbol = front[place];
            for (int i = place; i > 0; i--) {
                front[i] = front[i - 1];
            }
            front[0] = symbol;
            return symbol;
        }

        int read(ByteRow file, Grid sheet) {
            row = file;
            int head = readHead();
            row.startTaking(head, 8 * row.count, false, 11, row.count);
            int instances = takeNumber();
            needAll(instances <= INSTANCES_MOST, 12);
            logStrip = row.takeBits(2);
            turned = row.takeBit() == 1;
            corner = row.takeBits(2);
            operator = row.takeBits(3);
            needAll(operator <= 4, 13);
            if (naming == 0) {
                readCodes(instances);
            }
            beginNames();
            readStrips(instances);
            for (int i = 0; i < 8 && !row.isAtByte(); i++) {
                needAll(row.takeBit() == 0, 19);
            }
            needAll(!row.hasBit(), 19);
            sheet.take(page);
            return instances;
        }

        /** Faults of the bits are told at the next one. */
        private void needAll(boolean holds, int number) {
            if (!holds) {
                row.fail(number, row.bytePlace());
            }
        }

        private int headByte(int place, int least, int most) {
            if (place >= row.count || !isIn(row.get(place), least, most)) {
                row.fail(1, place);
            }
            return row.get(place);
        }

        /** How many bytes it has. */
        private int readHead() {
            headByte(0, 'T', 'T');
            naming = headByte(1, 0, 1);
            int width = headByte(2, 1, SHEET_SIDE);
            int height = headByte(3, 1, SHEET_SIDE);
            symbolCount = headByte(4, 0, SYMBOLS_MOST);
            int place = 5;
            for (int s = 0; s < symbolCount && s < SYMBOLS_MOST; s++) {
                symbolWidth[s] = headByte(place, 1, BOX_SIDE);
                symbolHeight[s] = headByte(place + 1, 1, BOX_SIDE);
                dots[s] = 0;
                place += 2;
                for (int y = 0; y < symbolHeight[s]; y++) {
                    int eight = headByte(place, 0, 255);
                    if ((eight & 255 >> symbolWidth[s]) != 0) {
                        row.fail(1, place);
                    }
                    dots[s] |= (long) eight << 8 * (BOX_SIDE - 1 - y);
                    place++;
                }
            }
            page.make(width, height, false);
            return place;
        }

        private int takeNumber() {
            int zeros = 0;
            while (zeros <= ZEROS_MOST && row.takeBit() == 0) {
                zeros++;
            }
            needAll(zeros <= ZEROS_MOST, 18);
            return (1 << zeros | row.takeBits(zeros)) - 1;
        }

        private int takeSigned() {
            int number = takeNumber();
            return (number & 1) == 0 ? number / 2 : -(number + 1) / 2;
        }

        private void readCodes(int instances) {
            names.forgetLengths();
            for (int s = 0; s < symbolCount; s++) {
                names.setLength(s, row.takeBits(4));
            }
            needAll(names.isFull() || names.isOneBit() || names.isEmpty() && instances == 0, 14);
            names.makeCodes();
        }

        private void readStrips(int instances) {
            int done = 0;
            int strip = 0;
            int firstPlace = 0;
            for (int strips = 0; strips < INSTANCES_MOST && done < instances; strips++) {
                strip = strips == 0 ? takeNumber() - FIRST_STRIP : strip + takeNumber() + 1;
                firstPlace += takeSigned();
                int place = firstPlace;
                int last = readInstance(place, strip);
                done++;
                for (int more = 0; more <= INSTANCES_MOST && row.takeBit() == 1; more++) {
                    needAll(done < instances, 12);
                    place += turned ? heightOf(last) : widthOf(last);
                    place += takeSigned();
                    last = readInstance(place, strip);
                    done++;
                }
            }
        }

        private int widthOf(int symbol) {
            return symbol >= 0 && symbol < PARTS_MOST ? symbolWidth[symbol] : 0;
        }

        private int heightOf(int symbol) {
            return symbol >= 0 && symbol < PARTS_MOST ? symbolHeight[symbol] : 0;
        }

        /** Its symbol, when it is laid. */
        private int readInstance(int along, int strip) {
            int across = (strip << logStrip) + row.takeBits(logStrip);
            int symbol = takeName();
            int x = turned ? across : along;
            int y = turned ? along : across;
            if ((corner & 2) != 0) {
                x -= widthOf(symbol) - 1;
            }
            if ((corner & 1) != 0) {
                y -= heightOf(symbol) - 1;
            }
            needAll(isIn(x, PLACE_LEAST, PLACE_MOST) && isIn(y, PLACE_LEAST, PLACE_MOST), 16);
            long laid = symbol >= 0 && symbol < PARTS_MOST ? dots[symbol] : 0;
            if (row.takeBit() == 1) {
                laid ^= takeDifference(widthOf(symbol), heightOf(symbol));
            }
            for (int i = 0; i < heightOf(symbol); i++) {
                for (int j = 0; j < widthOf(symbol); j++) {
                    boolean dark = (laid & dot(j, i)) != 0;
                    page.setMark(x + j, y + i, Grid.laidOn(page.marked(x + j, y + i), dark, operator));
                }
            }
            return symbol;
        }

        private int takeName() {
            if (naming == 0) {
                int symbol = names.takeSymbol(row);
                needAll(symbol != NONE, 15);
                return symbol;
            }
            int place = takeNumber();
            needAll(place < symbolCount, 15);
            return moveToFront(place);
        }

        private long takeDifference(int width, int height) {
            long differing = 0;
            int told = 0;
            boolean differs = false;
            // each run but the first one tells of a sample
            for (int runs = 0; runs <= width * height && told < width * height; runs++) {
                int run = takeNumber();
                needAll(run <= width * height - told && (run > 0 || runs == 0), 17);
                for (int i = 0; i < run && differs; i++) {
                    differing |= dot((told + i) % Math.max(1, width), (told + i) / Math.max(1, width));
                }
                told += run;
                differs = !differs;
            }
            return differing;
        }
    }

    /** Sheets as books of pages. */
    private static final class Books {
        private static final int HEADS_FIRST = 1;
        private static final int EMBEDDED = 2;
        private static final int SIGNATURE_HIGH = 0x974A4232;
        private static final int SIGNATURE_LOW = 0x0D0A1A0A;
        private static final int DICTIONARY = 0;
        private static final int KEPT_REGION = 4;
        private static final int REGION = 6;
        private static final int PLAIN_REGION = 38;
        private static final int PAGE = 48;
        private static final int PAGE_END = 49;
        private static final int STRIPE_END = 50;
        private static final int ALL_END = 51;
        private static final int TABLES = 53;
        private static final int EXTENSION = 62;
        private static final int SEGMENTS_WRITTEN = 30;
        private static final int PIECE = 16;
        private static final int NUMBERS = 256;
        private static final int PAGES_MOST = 9;
        private static final int PAGE_SIDE = 32;
        private static final int REGION_HEAD = 17;
        private static final int REFERENCES_SHORT = 4;
        private static final int REFERENCES_MOST = 10;
        private static final long ALL_ONES = 0xFFFFFFFFL;

        private final Grid[] pages = new Grid[PAGES_MOST + 1];
        private final Grid region = new Grid(PIECE * PIECE);
        // NONE for a segment that was not read, or is gone
        private final int[] kindOf = new int[NUMBERS];
        private final int[] pageOf = new int[NUMBERS];
        private final int[] dataOf = new int[NUMBERS];
        private ByteRow row = new ByteRow(1);
        private int order;
        private int stripes;
        private int number;
        private int headPlace;
        private int kind;
        private int page;
        private int flags;
        private int references;
        private int referencePlace;
        private int dataPlace;
        private long length;
        private int open;
        private int lastStripe;
        private boolean heightTold;
        private int pageOperator;

        Books() {
            for (int i = 0; i < pages.length; i++) {
                pages[i] = new Grid(PAGE_SIDE * PAGE_SIDE);
            }
        }

        /** Whether the book has not too many segments. */
        boolean write(Grid[] sheets, int s, int n, int howOrdered, int stripeRows, ByteRow out) {
            row = out;
            order = howOrdered;
            stripes = stripeRows;
            row.empty();
            if (order != EMBEDDED) {
                row.addFour(SIGNATURE_HIGH);
                row.addFour(SIGNATURE_LOW);
                row.add(order == HEADS_FIRST ? 0 : 1);
                row.addFour(n);
            }
            if (order == HEADS_FIRST) {
                writeSegments(sheets, s, n, true, false);
                writeSegments(sheets, s, n, false, true);
            } else {
                writeSegments(sheets, s, n, true, true);
            }
            return number <= SEGMENTS_WRITTEN;
        }

        private void writeSegments(Grid[] sheets, int s, int n, boolean withHeads, boolean withData) {
            number = 0;
            for (int i = 0; i < n; i++) {
                if (s + i >= 0 && s + i < sheets.length) {
                    page = i + 1;
                    writePage(sheets[s + i], withHeads, withData);
                }
            }
            if (order != EMBEDDED) {
                page = 0;
                writeHead(ALL_END, 0, withHeads);
            }
        }

        private void writeHead(int segmentKind, int bytes, boolean withHeads) {
            if (withHeads) {
                row.addFour(number);
                row.add(segmentKind);
                row.add(1);
                row.add(page);
                row.addFour(bytes);
            }
            number++;
        }

        private void writePage(Grid sheet, boolean withHeads, boolean withData) {
            writeHead(PAGE, 10, withHeads);
            if (withData) {
                row.addFour(sheet.width);
                row.addFour(stripes > 0 ? -1 : sheet.height);
                row.addWide(0);
            }
            for (int y = 0; y < sheet.height; y += PIECE) {
                for (int x = 0; x < sheet.width; x += PIECE) {
                    int wide = Math.min(PIECE, sheet.width - x);
                    int high = Math.min(PIECE, sheet.height - y);
                    if (isDarkIn(sheet, x, y)) {
                        int bytes = REGION_HEAD + high * ((wide + 7) / 8);
                        writeHead(PLAIN_REGION, stripes > 0 ? -1 : bytes, withHeads);
                        if (withData) {
                            writePiece(sheet, x, y, wide, high);
                        }
                    }
                }
            }
            for (int y = 0; y < sheet.height && stripes > 0; y++) {
                if ((y + 1) % stripes == 0 || y + 1 == sheet.height) {
                    writeHead(STRIPE_END, 4, withHeads);
                    if (withData) {
                        row.addFour(y);
                    }
                }
            }
            writeHead(PAGE_END, 0, withHeads);
        }

        private static boolean isDarkIn(Grid sheet, int x, int y) {
            for (int i = 0; i < PIECE * PIECE; i++) {
                if (sheet.marked(x + i % PIECE, y + i / PIECE)) {
                    return true;
                }
            }
            return false;
        }

        private void writePiece(Grid sheet, int x, int y, int wide, int high) {
            row.addFour(wide);
            row.addFour(high);
            row.addFour(x);
            row.addFour(y);
            row.add(4);
            for (int i = 0; i < high; i++) {
                if (stripes > 0) {
                    row.add(1);
                }
                row.startPutting(false, Integer.MAX_VALUE);
                for (int j = 0; j < wide; j++) {
                    row.putBits(sheet.marked(x + j, y + i) ? 1 : 0, 1);
                }
            }
            if (stripes > 0) {
                row.add(255);
                row.add(172);
                row.addFour(high);
            }
        }

        int read(ByteRow file, int howOrdered, Grid[] sheets, int s) {
            begin(file, howOrdered);
            int head = order == EMBEDDED ? 0 : readFront();
            int place = order == HEADS_FIRST ? passHeads(head) : head;
            kind = NONE;
            number = NONE;
            for (int i = 0; i <= NUMBERS && kind != ALL_END && (order != EMBEDDED || head < row.count); i++) {
                int behindHead = readHead(head);
                place = readSegment(order == HEADS_FIRST ? place : behindHead);
                head = order == HEADS_FIRST ? behindHead : place;
            }
            if (order == EMBEDDED && open != 0 || place < row.count) {
                row.fail(10, order == EMBEDDED ? row.count : place);
            }
            return givePages(sheets, s);
        }

        private int givePages(Grid[] sheets, int s) {
            int count = 0;
            boolean isSmall = true;
            for (int i = 1; i < pages.length; i++) {
                if (pages[i].there) {
                    count++;
                    isSmall = isSmall && pages[i].width <= SHEET_SIDE && pages[i].height <= SHEET_SIDE;
                }
            }
            if (count > sheets.length - s) {
                row.fail(20, 0);
            }
            if (!isSmall) {
                row.fail(21, 0);
            }
            int to = s;
            for (int i = 1; i < pages.length; i++) {
                if (pages[i].there && to >= 0 && to < sheets.length) {
                    sheets[to].take(pages[i]);
                    to++;
                }
            }
            return count;
        }

        private void begin(ByteRow file, int howOrdered) {
            row = file;
            order = howOrdered;
            number = NONE;
            open = 0;
            for (int i = 0; i < NUMBERS; i++) {
                kindOf[i] = NONE;
            }
            for (int i = 0; i < pages.length; i++) {
                pages[i].drop();
            }
        }

        private int readFront() {
            if (row.count < 13) {
                row.fail(1, row.count);
            }
            if ((int) row.four(0) != SIGNATURE_HIGH || (int) row.four(4) != SIGNATURE_LOW
                    || row.get(8) != (order == HEADS_FIRST ? 0 : 1)) {
                row.fail(2, 0);
            }
            return 13;
        }

        /** Reads all heads up to that of the end: the place behind them. */
        private int passHeads(int first) {
            int place = first;
            kind = NONE;
            for (int i = 0; i <= NUMBERS && kind != ALL_END; i++) {
                place = readHead(place);
            }
            return place;
        }

        /** The place behind it. */
        private int readHead(int p) {
            headPlace = p;
            int left = row.count - p;
            int sixth = row.get(p + 5);
            if (left < 6 || sixth >= 224 && left < 9) {
                row.fail(1, row.count);
            }
            if (row.four(p) <= number || row.four(p) >= NUMBERS) {
                row.fail(3, p);
            }
            number = (int) row.four(p);
            kind = row.get(p + 4);
            if (!isKnownKind()) {
                row.fail(4, p);
            }
            boolean isShort = sixth < 32 * (REFERENCES_SHORT + 1);
            references = isShort ? sixth >> 5 : row.get(p + 8);
            if (!isShort && (sixth != 224 || row.wide(p + 6) != 0
                    || !isIn(references, REFERENCES_SHORT + 1, REFERENCES_MOST))) {
                row.fail(8, p);
            }
            referencePlace = isShort ? p + 6 : p + 11;
            if (referencePlace + references + 5 > row.count) {
                row.fail(1, row.count);
            }
            flags = isShort ? sixth & 31 : row.get(p + 9) | row.get(p + 10) << 8;
            if (flags >> references + 1 != 0) {
                row.fail(8, p);
            }
            page = row.get(referencePlace + references);
            length = row.four(referencePlace + references + 1);
            return referencePlace + references + 5;
        }

        private boolean isKnownKind() {
            switch (kind) {
                case DICTIONARY: case KEPT_REGION: case REGION: case PLAIN_REGION: case PAGE:
                case PAGE_END: case STRIPE_END: case TABLES: case EXTENSION: return true;
                case ALL_END: return order != EMBEDDED;
                default: return false;
            }
        }

        /** Looks at the segment whose head was read and does what it tells: the place behind its data. */
        private int readSegment(int place) {
            dataPlace = place;
            needAll(areReferencesRight(), 5);
            needAll(isPageRight(), 6);
            needAll(isLengthRight(), 7);
            boolean isOpenEnded = length == ALL_ONES;
            if (!isOpenEnded && place + length > row.count) {
                row.fail(1, row.count);
            }
            int behind = isOpenEnded ? place : place + (int) length;
            if (isRegion()) {
                behind = readRegion(isOpenEnded, behind);
            } else {
                readOther();
            }
            if (isIn(number, 0, NUMBERS - 1)) {
                kindOf[number] = kind;
                pageOf[number] = page;
                dataOf[number] = dataPlace;
            }
            letGo();
            return behind;
        }

        private void needAll(boolean holds, int fault) {
            if (!holds) {
                row.fail(fault, headPlace);
            }
        }

        private boolean isRegion() {
            return kind == KEPT_REGION || kind == REGION || kind == PLAIN_REGION;
        }

        private boolean areReferencesRight() {
            int kept = 0;
            for (int i = 0; i < references; i++) {
                int other = row.get(referencePlace + i);
                if (other >= NUMBERS || kindOf[other] == NONE || pageOf[other] != 0 && pageOf[other] != page) {
                    return false;
                }
                for (int j = 0; j < i; j++) {
                    if (row.get(referencePlace + j) == other) {
                        return false;
                    }
                }
                boolean isShared = kindOf[other] == DICTIONARY || kindOf[other] == TABLES;
                if (kind == REGION && kindOf[other] == KEPT_REGION) {
                    kept++;
                } else if (!isShared || kind != DICTIONARY && kind != KEPT_REGION && kind != REGION) {
                    return false;
                }
            }
            return kept <= 1;
        }

        private boolean isPageRight() {
            if (page > PAGES_MOST) {
                return false;
            }
            switch (kind) {
                case PAGE: return page != 0 && page < pages.length && !pages[page].there && open == 0;
                case PAGE_END: case STRIPE_END: case KEPT_REGION: case REGION: case PLAIN_REGION:
                    return open != 0 && page == open;
                case ALL_END: return page == 0;
                default: return page == 0 || page == open;
            }
        }

        private boolean isLengthRight() {
            switch (kind) {
                case DICTIONARY: case TABLES: return length <= 20;
                case EXTENSION: return length >= 4 && length <= 24;
                case PAGE: return length == 10;
                case STRIPE_END: return length == 4;
                case PAGE_END: case ALL_END: return length == 0;
                case PLAIN_REGION: return length >= REGION_HEAD;
                default: return length >= REGION_HEAD && length != ALL_ONES;
            }
        }

        private void readOther() {
            Grid grid = isIn(open, 0, PAGES_MOST) ? pages[open] : pages[0];
            switch (kind) {
                case PAGE:
                    beginPage();
                    break;
                case STRIPE_END:
                    needAll(row.four(dataPlace) < (heightTold ? grid.height : PAGE_SIDE), 8);
                    needAll(row.four(dataPlace) > lastStripe, 8);
                    lastStripe = (int) row.four(dataPlace);
                    break;
                case PAGE_END:
                    needAll(heightTold || lastStripe >= 0, 8);
                    if (!heightTold) {
                        grid.height = Math.min(grid.height, lastStripe + 1);
                    }
                    open = 0;
                    break;
                case EXTENSION:
                    needAll((int) row.four(dataPlace) >= 0, 9);
                    break;
                case ALL_END:
                    needAll(open == 0, 10);
                    break;
                default:
                    break;
            }
        }

        private void beginPage() {
            long width = row.four(dataPlace);
            long height = row.four(dataPlace + 4);
            int dark = row.get(dataPlace + 8);
            pageOperator = row.get(dataPlace + 9);
            heightTold = height != ALL_ONES;
            needAll(width >= 1 && width <= PAGE_SIDE, 8);
            needAll(!heightTold || height >= 1 && height <= PAGE_SIDE, 8);
            needAll(dark <= 1 && pageOperator <= 4, 8);
            if (isIn(page, 1, PAGES_MOST)) {
                pages[page].make((int) width, heightTold ? (int) height : PAGE_SIDE, dark == 1);
                open = page;
            }
            lastStripe = NONE;
        }

        /** The place behind it. */
        private int readRegion(boolean isOpenEnded, int behind) {
            if (row.count - dataPlace < REGION_HEAD) {
                row.fail(1, row.count);
            }
            long width = row.four(dataPlace);
            long height = row.four(dataPlace + 4);
            needAll(width >= 1 && width <= PIECE && height >= 1 && height <= PIECE, 8);
            needAll(row.four(dataPlace + 8) < PAGE_SIDE && row.four(dataPlace + 12) < PAGE_SIDE, 8);
            needAll(row.get(dataPlace + 16) <= 5, 8);
            int rowBytes = ((int) width + 7) / 8;
            region.make((int) width, (int) height, false);
            int place = dataPlace + REGION_HEAD;
            if (isOpenEnded) {
                place = readOpenRows(place, rowBytes);
            } else {
                needAll(length == REGION_HEAD + height * rowBytes, 7);
                for (int y = 0; y < region.height; y++) {
                    needAll(readRow(place + y * rowBytes, y, rowBytes), 8);
                }
                place = behind;
            }
            if (kind == REGION) {
                differFromKept();
            }
            if (kind != KEPT_REGION) {
                putRegion();
            }
            return place;
        }

        /** Whether the bits that fill it are 0. */
        private boolean readRow(int place, int y, int rowBytes) {
            for (int x = 0; x < 8 * rowBytes; x++) {
                boolean dark = isDot(place, x);
                if (x >= region.width && dark) {
                    return false;
                }
                region.setMark(x, y, dark);
            }
            return true;
        }

        private boolean isDot(int place, int x) {
            return (row.get(place + x / 8) >> 7 - x % 8 & 1) == 1;
        }

        /** Rows up to the end that is told behind them: the place behind it. */
        private int readOpenRows(int first, int rowBytes) {
            int place = first;
            int rows = 0;
            while (rows <= PIECE && takeByte(place) == 1) {
                needAll(rows < region.height, 8);
                if (row.count - place - 1 < rowBytes) {
                    row.fail(1, row.count);
                }
                needAll(readRow(place + 1, rows, rowBytes), 8);
                rows++;
                place += 1 + rowBytes;
            }
            needAll(takeByte(place) == 255, 8);
            needAll(takeByte(place + 1) == 172, 8);
            if (row.count - place < 6) {
                row.fail(1, row.count);
            }
            needAll(row.four(place + 2) == rows && rows > 0, 8);
            region.height = Math.min(region.height, rows);
            return place + 6;
        }

        private int takeByte(int place) {
            if (place >= row.count) {
                row.fail(1, row.count);
            }
            return row.get(place);
        }

        private void differFromKept() {
            for (int i = 0; i < references; i++) {
                int other = row.get(referencePlace + i);
                if (other < NUMBERS && kindOf[other] == KEPT_REGION) {
                    int place = dataOf[other];
                    needAll(row.four(place) == region.width && row.four(place + 4) == region.height, 5);
                    int rowBytes = (region.width + 7) / 8;
                    for (int y = 0; y < region.height; y++) {
                        for (int x = 0; x < region.width; x++) {
                            boolean dark = isDot(place + REGION_HEAD + y * rowBytes, x);
                            region.setMark(x, y, region.marked(x, y) != dark);
                        }
                    }
                }
            }
        }

        private void putRegion() {
            if (!isIn(open, 1, PAGES_MOST)) {
                return;
            }
            Grid grid = pages[open];
            int left = (int) row.four(dataPlace + 8);
            int upper = (int) row.four(dataPlace + 12);
            int told = row.get(dataPlace + 16);
            int operator = told == 5 ? pageOperator : told;
            for (int y = 0; y < region.height; y++) {
                for (int x = 0; x < region.width; x++) {
                    boolean before = grid.marked(left + x, upper + y);
                    grid.setMark(left + x, upper + y, Grid.laidOn(before, region.marked(x, y), operator));
                }
            }
        }

        /** What the flags do not keep is gone for those behind. */
        private void letGo() {
            if ((flags & 1) == 0 && isIn(number, 0, NUMBERS - 1)) {
                kindOf[number] = NONE;
            }
            for (int i = 0; i < references; i++) {
                int other = row.get(referencePlace + i);
                if ((flags >> i + 1 & 1) == 0 && other < NUMBERS) {
                    kindOf[other] = NONE;
                }
            }
        }
    }

    /** A plane with tiles that show pictures, which can be cropped, turned and joined as they are. */
    private static final class Album {
        private static final int TILES = 40;
        private static final int SIDE_MOST = 400;
        private static final int SIDE_FIRST = 40;
        private static final int X = 0;
        private static final int Y = 1;
        private static final int WIDE = 2;
        private static final int HIGH = 3;
        private static final int WAY = 4;
        private static final int PICTURE = 5;
        private static final int OWN_WIDE = 6;
        private static final int OWN_HIGH = 7;
        private static final int HEAD = 8;
        private static final int PART = 13;
        private static final int SUM_MODULUS = 65521;

        private final int[][] tile = new int[8][TILES];
        private final int[] rank = new int[TILES];
        private final int[] border = new int[4];
        private int width = SIDE_FIRST;
        private int height = SIDE_FIRST;
        private int count;
        private int wholeWay;
        // whether the latest crop was refused, and nothing has changed since
        private boolean refused;

        void reset() {
            width = SIDE_FIRST;
            height = SIDE_FIRST;
            count = 0;
            startAnew();
        }

        void startAnew() {
            wholeWay = 0;
            refused = false;
        }

        int detail(int t, int what) {
            return t >= 0 && t < count && t < TILES && what >= 0 && what < tile.length ? tile[what][t] : 0;
        }

        /** Whether a rectangle that has samples lies wholly in the album. */
        boolean holds(int x, int y, int w, int h) {
            return x >= 0 && y >= 0 && w >= 1 && h >= 1 && x <= width - w && y <= height - h;
        }

        boolean isFree(int x, int y, int w, int h) {
            for (int t = 0; t < count && t < TILES; t++) {
                if (tile[X][t] < x + w && x < tile[X][t] + tile[WIDE][t]
                        && tile[Y][t] < y + h && y < tile[Y][t] + tile[HIGH][t]) {
                    return false;
                }
            }
            return true;
        }

        int addTile(int k, int x, int y, int w, int h) {
            if (count < 0 || count >= TILES) {
                return NONE;
            }
            tile[X][count] = x;
            tile[Y][count] = y;
            tile[WIDE][count] = w;
            tile[HIGH][count] = h;
            tile[WAY][count] = 0;
            tile[PICTURE][count] = k;
            tile[OWN_WIDE][count] = w;
            tile[OWN_HIGH][count] = h;
            count++;
            refused = false;
            return count - 1;
        }

        int turnBy(int way) {
            refused = false;
            if (way >= 4) {
                for (int t = 0; t < count && t < TILES; t++) {
                    tile[X][t] = width - tile[X][t] - tile[WIDE][t];
                }
            }
            for (int quarter = 0; quarter < way % 4; quarter++) {
                turnQuarter();
            }
            for (int t = 0; t < count && t < TILES; t++) {
                tile[WAY][t] = together(tile[WAY][t], way);
            }
            wholeWay = together(wholeWay, way);
            return wholeWay;
        }

        private void turnQuarter() {
            for (int t = 0; t < count && t < TILES; t++) {
                int x = tile[X][t];
                int wide = tile[WIDE][t];
                tile[X][t] = height - tile[Y][t] - tile[HIGH][t];
                tile[Y][t] = x;
                tile[WIDE][t] = tile[HIGH][t];
                tile[HIGH][t] = wide;
            }
            int before = width;
            width = height;
            height = before;
        }

        /** One way and then another; a mirror makes turns before it go the other way round. */
        private static int together(int one, int then) {
            int turns = then >= 4 ? then - one : one + then;
            return (one & 4 ^ then & 4) + (turns & 3);
        }

        /** Whether no tile lies on both sides of the border before column (axis X) or row (Y) c. */
        private boolean fits(int axis, int c) {
            for (int t = 0; t < count && t < TILES; t++) {
                int first = axis == X ? tile[X][t] : tile[Y][t];
                int size = axis == X ? tile[WIDE][t] : tile[HIGH][t];
                if (first < c && c < first + size) {
                    return false;
                }
            }
            return true;
        }

        int cropTo(int x, int y, int w, int h) {
            border[0] = x;
            border[1] = y;
            border[2] = x + w;
            border[3] = y + h;
            refused = !fits(X, x) || !fits(Y, y) || !fits(X, x + w) || !fits(Y, y + h);
            if (refused) {
                return NONE;
            }
            int kept = 0;
            for (int t = 0; t < count && t < TILES; t++) {
                boolean isKept = tile[X][t] >= x && tile[X][t] < x + w && tile[Y][t] >= y && tile[Y][t] < y + h;
                if (isKept && kept <= t) {
                    for (int what = 0; what < tile.length; what++) {
                        tile[what][kept] = tile[what][t];
                    }
                    tile[X][kept] -= x;
                    tile[Y][kept] -= y;
                    kept++;
                }
            }
            count = kept;
            width = w;
            height = h;
            return count;
        }

        int nearestBorder(int side) {
            if (side < 0 || side >= border.length) {
                return NONE;
            }
            int axis = (side & 1) == 0 ? X : Y;
            int most = axis == X ? width : height;
            for (int away = 0; away <= most; away++) {
                if (border[side] - away >= 0 && fits(axis, border[side] - away)) {
                    return border[side] - away;
                }
                if (border[side] + away <= most && fits(axis, border[side] + away)) {
                    return border[side] + away;
                }
            }
            return NONE;
        }

        /** Puts the other one to a side (left, above, right, below), and takes its tiles. */
        int joinOn(Album other, int side) {
            startAnew();
            for (int t = 0; t < count && t < TILES; t++) {
                tile[X][t] += side == 0 ? other.width : 0;
                tile[Y][t] += side == 1 ? other.height : 0;
            }
            for (int t = 0; t < other.count && t < TILES && count < TILES && count >= 0; t++) {
                for (int what = 0; what < tile.length; what++) {
                    tile[what][count] = other.detail(t, what);
                }
                tile[X][count] += side == 2 ? width : 0;
                tile[Y][count] += side == 3 ? height : 0;
                count++;
            }
            other.count = 0;
            if (side == 0 || side == 2) {
                width += other.width;
            } else {
                height += other.height;
            }
            return count;
        }

        /** The sample that is shown, or NONE. */
        int seenAt(Grid[] pictures, int x, int y) {
            for (int t = 0; t < count && t < TILES; t++) {
                int right = x - tile[X][t];
                int down = y - tile[Y][t];
                if (right >= 0 && right < tile[WIDE][t] && down >= 0 && down < tile[HIGH][t]) {
                    return seenIn(pictures, t, right, down);
                }
            }
            return NONE;
        }

        /** Turns a place of a tile back to that of its own. */
        private int seenIn(Grid[] pictures, int t, int right, int down) {
            int k = detail(t, PICTURE);
            int x = right;
            int y = down;
            int wide = detail(t, WIDE);
            int high = detail(t, HIGH);
            for (int quarter = 0; quarter < detail(t, WAY) % 4; quarter++) {
                int before = x;
                x = y;
                y = wide - 1 - before;
                before = wide;
                wide = high;
                high = before;
            }
            if (detail(t, WAY) >= 4) {
                x = wide - 1 - x;
            }
            return k >= 0 && k < pictures.length && pictures[k].marked(x, y) ? pictures[k].grey(x, y) : NONE;
        }

        void write(ByteRow out) {
            out.empty();
            out.add('L');
            out.add('F');
            addLow(out, width);
            addLow(out, height);
            out.add(count);
            for (int t = 0; t < count && t < TILES; t++) {
                rank[t] = rankOf(t);
                addLow(out, HEAD + 2 * count + PART * rank[t]);
            }
            out.add(0);
            for (int i = 0; i < count; i++) {
                for (int t = 0; t < count && t < TILES; t++) {
                    if (rank[t] == i) {
                        writePart(out, t);
                    }
                }
            }
        }

        private static void addLow(ByteRow out, int v) {
            out.add(v);
            out.add(v >> 8);
        }

        /** How many tiles come before it by y, then x. */
        private int rankOf(int t) {
            int before = 0;
            for (int other = 0; other < count; other++) {
                int lower = detail(t, Y) - detail(other, Y);
                if (lower > 0 || lower == 0 && detail(other, X) < detail(t, X)) {
                    before++;
                }
            }
            return before;
        }

        private void writePart(ByteRow out, int t) {
            int from = out.count;
            for (int what = X; what <= HIGH; what++) {
                addLow(out, detail(t, what));
            }
            out.add(detail(t, WAY));
            out.add(1);
            out.add(detail(t, PICTURE));
            int sum = 1;
            for (int i = from; i < out.count; i++) {
                sum = (sum * 31 + out.get(i)) % SUM_MODULUS;
            }
            addLow(out, sum);
        }
    }

    /** Shares that workers do in any order, with what they need of one another. */
    private static final class Batch {
        private static final int SHARES = PICTURES;
        private static final int WORKERS = 16;
        private static final int NEEDS = 6;
        private static final int FAILINGS = 8;
        private static final int STEP_MOST = 20;
        private static final int ROOM = 40;
        private static final int TICKS_MOST = 20000;
        private static final int RUNNING = 2;
        private static final int ALL_FINISHED = 0;
        private static final int STOPPED = 1;
        private static final int NO_WORKER = -1;
        private static final int STUCK = -2;
        private static final int TOO_LONG = -3;
        private static final int NO_SHARE = -1;
        private static final int FAILED = -2;
        private static final long FACTOR = 6364136223846793005L;
        private static final long ADDEND = 1442695040888963407L;
        private static final int NEED_STEP = 0;
        private static final int NEED_OTHER = 1;
        private static final int NEED_DONE = 2;
        private static final int TICKS = 9;
        private static final int IDLE = 10;
        private static final int WAITING = 11;
        private static final int STEPS = 12;
        private static final int CELLS = 13;
        private static final int LIVING = 14;

        // by share, need after need: its step, the other share, how many steps of that
        private final int[][] needs = new int[SHARES][3 * NEEDS];
        private final int[] needCount = new int[SHARES];
        // worker, share, step, times, and the times left in this batch
        private final int[][] failings = new int[5][FAILINGS];
        private int failingCount;
        private int stopShare = NONE;
        private final boolean[] hasValue = new boolean[SHARES];
        private final long[] values = new long[SHARES];
        // by what is told of it
        private final int[] counts = new int[LIVING + 1];
        private final int[][] waits = new int[SHARES][SHARES];
        private final int[] finishedOrder = new int[SHARES];
        private int finishedCount;
        private final int[] steps = new int[SHARES];
        private final int[] cells = new int[SHARES];
        private final int[] done = new int[SHARES];
        private final long[][] chain = new long[SHARES][PICTURE_SIDE + 1];
        private final int[] shareOf = new int[WORKERS];
        private final int[] queue = new int[SHARES];
        private int queued;
        private int cellsInUse;
        private int workers;

        void reset() {
            failingCount = 0;
            stopShare = NONE;
            finishedCount = 0;
            for (int i = 0; i < counts.length; i++) {
                counts[i] = 0;
            }
            for (int share = 0; share < SHARES; share++) {
                needCount[share] = 0;
                hasValue[share] = false;
                for (int other = 0; other < SHARES; other++) {
                    waits[share][other] = 0;
                }
            }
        }

        int addNeed(int share, int s, int other, int m) {
            if (share < 0 || share >= SHARES || needCount[share] < 0 || needCount[share] >= NEEDS) {
                return NONE;
            }
            int first = 3 * needCount[share];
            needs[share][first + NEED_STEP] = s;
            needs[share][first + NEED_OTHER] = other;
            needs[share][first + NEED_DONE] = m;
            needCount[share]++;
            return needCount[share];
        }

        int addFailing(int worker, int share, int s, int times) {
            if (failingCount < 0 || failingCount >= FAILINGS) {
                return NONE;
            }
            failings[0][failingCount] = worker;
            failings[1][failingCount] = share;
            failings[2][failingCount] = s;
            failings[3][failingCount] = times;
            failingCount++;
            return failingCount;
        }

        int finishedShare(int i) {
            return i >= 0 && i < finishedCount && i < SHARES ? finishedOrder[i] : NONE;
        }

        int count(int what) {
            if (what == LIVING + 1) {
                return finishedCount;
            }
            if (what >= 0 && what < counts.length) {
                return counts[what];
            }
            int put = 0;
            for (int share = 0; share < SHARES; share++) {
                put += hasValue[share] ? 1 : 0;
            }
            return put;
        }

        int run(Grid[] pictures, int howMany, long seed) {
            begin(pictures, howMany);
            long x = seed;
            int end = ending();
            while (end == RUNNING && counts[TICKS] < TICKS_MOST) {
                x = x * FACTOR + ADDEND;
                counts[TICKS]++;
                work(workerAt((int) ((x >>> 33) % Math.max(1, counts[LIVING]))));
                counts[CELLS] = Math.max(counts[CELLS], cellsInUse);
                end = ending();
            }
            if (end == ALL_FINISHED || end == STOPPED) {
                putValues();
            }
            return end;
        }

        private void begin(Grid[] pictures, int howMany) {
            workers = Math.min(WORKERS, howMany);
            for (int i = 0; i < counts.length; i++) {
                counts[i] = 0;
            }
            counts[LIVING] = workers;
            for (int worker = 0; worker < WORKERS; worker++) {
                shareOf[worker] = NO_SHARE;
            }
            for (int i = 0; i < FAILINGS; i++) {
                failings[4][i] = failings[3][i];
            }
            finishedCount = 0;
            cellsInUse = 0;
            queued = SHARES;
            for (int share = 0; share < SHARES; share++) {
                boolean isThere = share < pictures.length && pictures[share].there;
                steps[share] = isThere ? Math.min(PICTURE_SIDE, pictures[share].height) : 1;
                cells[share] = isThere ? pictures[share].width : 1;
                chain[share][0] = isThere ? startOf(pictures[share]) : share;
                done[share] = 0;
                queue[share] = share;
                for (int other = 0; other < SHARES; other++) {
                    waits[share][other] = 0;
                }
            }
        }

        private static long startOf(Grid picture) {
            long start = 1;
            for (int y = 0; y < picture.height; y++) {
                for (int x = 0; x < picture.width; x++) {
                    start = 31 * start + picture.grey(x, y);
                }
            }
            return start;
        }

        /** The living worker with so many living ones before it. */
        private int workerAt(int place) {
            int before = 0;
            for (int worker = 0; worker < workers; worker++) {
                if (shareOf[worker] != FAILED) {
                    if (before == place) {
                        return worker;
                    }
                    before++;
                }
            }
            return NONE;
        }

        private void work(int worker) {
            if (worker < 0 || worker >= WORKERS) {
                return;
            }
            int share = shareOf[worker];
            if (share < 0 || share >= SHARES) {
                takeShare(worker);
                return;
            }
            int other = blocking(share);
            if (other >= 0 && other < SHARES) {
                waits[share][other]++;
                counts[WAITING]++;
            } else if (isFailing(worker, share)) {
                shareOf[worker] = FAILED;
                counts[LIVING]--;
                cellsInUse -= cells[share];
                done[share] = 0;
                enqueue(share);
            } else {
                doStep(worker, share);
            }
        }

        private boolean canTake() {
            return queued > 0 && isIn(queue[0], 0, SHARES - 1) && cellsInUse + cells[queue[0]] <= ROOM;
        }

        private void takeShare(int worker) {
            if (!canTake()) {
                counts[IDLE]++;
                return;
            }
            int share = queue[0];
            queued--;
            for (int i = 0; i < queued && i + 1 < SHARES; i++) {
                queue[i] = queue[i + 1];
            }
            shareOf[worker] = share;
            waits[share][share]++;
            cellsInUse += cells[share];
        }

        private void enqueue(int share) {
            if (queued >= 0 && queued < SHARES) {
                queue[queued] = share;
                queued++;
            }
        }

        /** The other share that the next step of a share must wait for, or NONE. */
        private int blocking(int share) {
            for (int i = 0; i < needCount[share] && i < NEEDS; i++) {
                int other = needs[share][3 * i + NEED_OTHER];
                if (needs[share][3 * i + NEED_STEP] == done[share] && isIn(other, 0, SHARES - 1)
                        && done[other] < needs[share][3 * i + NEED_DONE]) {
                    return other;
                }
            }
            return NONE;
        }

        private boolean isFailing(int worker, int share) {
            for (int i = 0; i < failingCount && i < FAILINGS; i++) {
                if (failings[0][i] == worker && failings[1][i] == share && failings[2][i] == done[share]
                        && failings[4][i] > 0) {
                    failings[4][i]--;
                    return true;
                }
            }
            return false;
        }

        private void doStep(int worker, int share) {
            int s = done[share];
            if (s < 0 || s >= PICTURE_SIDE) {
                return;
            }
            long value = chain[share][s] * FACTOR + s + 1;
            for (int i = 0; i < needCount[share] && i < NEEDS; i++) {
                if (needs[share][3 * i + NEED_STEP] == s) {
                    value += valueBehind(needs[share][3 * i + NEED_OTHER], needs[share][3 * i + NEED_DONE]);
                }
            }
            chain[share][s + 1] = value ^ value >>> 29;
            done[share]++;
            counts[STEPS]++;
            if (done[share] == steps[share]) {
                shareOf[worker] = NO_SHARE;
                cellsInUse -= cells[share];
                if (finishedCount >= 0 && finishedCount < SHARES) {
                    finishedOrder[finishedCount] = share;
                    finishedCount++;
                }
            }
        }

        private long valueBehind(int share, int m) {
            return isIn(share, 0, SHARES - 1) && isIn(m, 0, PICTURE_SIDE) ? chain[share][m] : 0;
        }

        private boolean isFinished(int share) {
            return isIn(share, 0, SHARES - 1) && done[share] == steps[share];
        }

        private int ending() {
            if (finishedCount == SHARES) {
                return ALL_FINISHED;
            }
            if (isFinished(stopShare)) {
                return STOPPED;
            }
            if (counts[LIVING] == 0) {
                return NO_WORKER;
            }
            if (isStuck()) {
                return STUCK;
            }
            return counts[TICKS] < TICKS_MOST ? RUNNING : TOO_LONG;
        }

        private boolean isStuck() {
            for (int worker = 0; worker < workers; worker++) {
                int share = shareOf[worker];
                if (share == NO_SHARE && canTake()) {
                    return false;
                }
                if (isIn(share, 0, SHARES - 1) && blocking(share) == NONE) {
                    return false;
                }
            }
            return true;
        }

        private void putValues() {
            for (int share = 0; share < SHARES; share++) {
                hasValue[share] = isFinished(share);
                values[share] = valueBehind(share, steps[share]);
            }
        }
    }
}
