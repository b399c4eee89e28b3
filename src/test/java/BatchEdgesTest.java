import java.util.Random;

/** Promises 16 (need) to 19 (waited), and 10 BATCHES: the last step, the full ROOM, each end, and what it leaves. */
public final class BatchEdgesTest {
    private static final long FACTOR = 6364136223846793005L;

    public static void main(String[] args) {
        before();
        oneWorker();
        startValues();
        needsOfOneStep();
        stepsOfNeeds();
        tooManyDone();
        firstNeedFirst();
        needsAndFailingsAtMost();
        fullRoom();
        idleTicks();
        failsAndBegins();
        waitsBeforeItFails();
        failingsOfEachBatch();
        noWorkerLives();
        stops();
        endsInOrder();
        filesOfEnds();
        filesAsBefore();
        whatIsLeftOfTheLatest();
        seeds();
        manyWorkers();
        Checks.end();
    }

    /** A house whose pictures 0 to count - 1 are that wide and high. */
    private static PictureCodingHouse house(int count, int width, int height) {
        PictureCodingHouse h = new PictureCodingHouse();
        for (int k = 0; k < count; k++) {
            h.picture(k, width, height);
        }
        return h;
    }

    private static int sum(PictureCodingHouse h) {
        int waited = 0;
        for (int share = 0; share < 8; share++) {
            for (int other = 0; other < 8; other++) {
                waited += share == other ? 0 : h.waited(share, other);
            }
        }
        return waited;
    }

    /** "0 before one". */
    private static void before() {
        PictureCodingHouse h = new PictureCodingHouse();
        for (int what = 9; what <= 16; what++) {
            Checks.same("told " + what, 0, h.told(what));
        }
        for (int share = 0; share < 8; share++) {
            int one = share;
            Checks.refused("no value", IllegalStateException.class, h, () -> h.value(one));
            for (int other = 0; other < 8; other++) {
                Checks.same("waited", 0, h.waited(share, other));
            }
        }
        Checks.refused("none finished", IndexOutOfBoundsException.class, h, () -> h.finished(0));
    }

    /** One worker has every TICK: it takes the first of the QUEUE and does all its steps. */
    private static void oneWorker() {
        PictureCodingHouse h = new PictureCodingHouse();
        h.picture(2, 12, 1);
        h.picture(5, 1, 12);
        h.picture(7, 12, 12);
        Checks.same("all finished", 0, h.batch(1, 77, 2, 0));
        Checks.same("ticks: one for each share and each step", 8 + 5 + 1 + 12 + 12, h.told(9));
        Checks.same("idle", 0, h.told(10));
        Checks.same("waited", 0, h.told(11));
        Checks.same("steps", 5 + 1 + 12 + 12, h.told(12));
        Checks.same("the most cells", 12, h.told(13));
        Checks.same("living", 1, h.told(14));
        Checks.same("finished", 8, h.told(15));
        Checks.same("values", 8, h.told(16));
        for (int share = 0; share < 8; share++) {
            Checks.same("in the order of the queue", share, h.finished(share));
            Checks.same("begun once", 1, h.waited(share, share));
        }
        Checks.refused("there is no ninth", IndexOutOfBoundsException.class, h, () -> h.finished(8));
        Checks.same("files of those that are there alone", 0, h.size(2, 0, 0) + h.size(2, 1, 0) + h.size(2, 3, 0));
    }

    private static long step(long value, int s, long more) {
        long next = value * FACTOR + s + 1 + more;
        return next ^ next >>> 29;
    }

    /** "at first 1; then 31 times it and the sample more"; "if the picture is not THERE .. its own number as START". */
    private static void startValues() {
        PictureCodingHouse h = new PictureCodingHouse();
        h.picture(0, 12, 12);
        long start = 1;
        Random random = new Random(2);
        for (int y = 0; y < 12; y++) {
            for (int x = 0; x < 12; x++) {
                int v = random.nextInt(256);
                h.put(0, x, y, 1, v);
                start = start * 31 + v;
                h.shape(0, x, y, 1, random.nextBoolean());
            }
        }
        h.picture(1, 1, 1);
        h.put(1, 0, 0, 1, 255);
        Checks.same("batch", 0, h.batch(1, 0, 2, 0));
        for (int s = 0; s < 12; s++) {
            start = step(start, s, 0);
        }
        Checks.same("of 144 samples, inside or not", start, h.value(0));
        Checks.same("of one sample", step(31 + 255, 0, 0), h.value(1));
        for (int share = 2; share < 8; share++) {
            Checks.same("of none", step(share, 0, 0), h.value(share));
        }
    }

    /** "for each NEED of this step, that other SHARE's value behind m steps". */
    private static void needsOfOneStep() {
        PictureCodingHouse h = new PictureCodingHouse();
        h.picture(3, 1, 3);
        h.picture(0, 1, 2);
        h.need(3, 1, 0, 1);
        h.need(3, 1, 0, 2);
        h.need(3, 1, 1, 1);
        h.need(3, 2, 0, 1);
        h.need(3, 1, 0, 1);
        Checks.same("batch", 0, h.batch(1, 0, 2, 0));
        long first = step(31, 0, 0);
        long second = 1;
        // two samples of 0 are 31 times 31
        second = step(31 * 31, 0, 0);
        long third = step(second, 1, 0);
        long other = step(1, 0, 0);
        long v = step(31L * 31 * 31, 0, 0);
        v = step(v, 1, second + third + other + second);
        v = step(v, 2, second);
        Checks.same("value", v, h.value(3));
        Checks.holds("not of one sample", first != second);
    }

    /** A NEED in front of a step that the SHARE has not is passed over: its last step is its STEPS less 1. */
    private static void stepsOfNeeds() {
        for (int s = 0; s < 20; s++) {
            PictureCodingHouse h = house(2, 1, 3);
            h.need(0, s, 1, 3);
            // share 1 is never begun by one worker, as share 0 waits for it
            Checks.same("in front of step " + s, s < 3 ? -2 : 0, h.batch(1, 5, 2, 0));
            Checks.same("steps", s < 3 ? s : 3 + 3 + 6, h.told(12));
        }
        PictureCodingHouse h = new PictureCodingHouse();
        h.need(0, 0, 1, 1);
        Checks.same("of one that is not there", -2, h.batch(1, 5, 2, 0));
        h.free(0);
        h.need(0, 1, 1, 1);
        Checks.same("its second step is none", 0, h.batch(1, 5, 2, 0));
    }

    /** "another SHARE must have DONE m steps": as many as it has, and one more, which it never does. */
    private static void tooManyDone() {
        for (int m = 1; m <= 20; m++) {
            PictureCodingHouse h = house(2, 1, 3);
            h.need(1, 0, 0, m);
            Checks.same("behind " + m, m <= 3 ? 0 : -2, h.batch(1, 5, 2, 0));
            Checks.same("share 0 finished", 0, h.finished(0));
        }
        PictureCodingHouse h = house(8, 1, 12);
        h.need(7, 11, 0, 12);
        Checks.same("the last step, behind all of another one", 0, h.batch(3, 5, 2, 0));
        h.need(7, 11, 0, 13);
        Checks.same("one more than it has", -2, h.batch(3, 5, 2, 0));
        Checks.same("all others finished", 7, h.told(15));
        Checks.same("share 7 has done eleven", 7 * 12 + 11, h.told(12));
    }

    /** "it WAITS: for the first such one, in the order in which they were told". */
    private static void firstNeedFirst() {
        for (int first = 1; first <= 2; first++) {
            PictureCodingHouse h = house(3, 12, 12);
            h.need(0, 0, first, 1);
            h.need(0, 0, 3 - first, 1);
            h.batch(3, 11, 2, 0);
            int waited = h.waited(0, 1) + h.waited(0, 2);
            Checks.same("all ticks in which it waited", h.told(11), waited);
        }
        PictureCodingHouse h = house(3, 12, 12);
        h.need(0, 5, 2, 20);
        h.need(0, 5, 1, 20);
        Checks.same("stuck in the end", -2, h.batch(2, 4, 2, 0));
        Checks.holds("for the first one", h.waited(0, 2) > 0);
        Checks.same("never for the second one", 0, h.waited(0, 1));
        Checks.same("as often as told", h.told(11), sum(h));
    }

    private static void needsAndFailingsAtMost() {
        PictureCodingHouse h = new PictureCodingHouse();
        for (int share = 0; share < 8; share++) {
            int one = share;
            for (int i = 1; i <= 6; i++) {
                Checks.same("need " + i, i, h.need(share, 19, (share + 1) % 8, 20));
            }
            Checks.refused("a seventh", UnsupportedOperationException.class, h, () -> h.need(one, 0, (one + 1) % 8, 1));
        }
        Checks.same("all go", 6, h.free(3));
        Checks.same("none are left", 0, h.free(3));
        Checks.same("others stay", 6, h.free(4));
        Checks.same("again", 1, h.need(3, 0, 0, 1));
        for (int i = 1; i <= 8; i++) {
            Checks.same("failing " + i, i, h.failing(15, 7, 19, 9));
            Checks.same("failings", i, h.told(7));
        }
        Checks.refused("a ninth", UnsupportedOperationException.class, h, () -> h.failing(0, 0, 0, 1));
        Checks.same("batch", 0, h.batch(1, 0, 2, 0));
        Checks.same("they stay behind a batch", 8, h.told(7));
        int[] stops = {-1, 0, 7, -1, 3};
        int last = -1;
        for (int stop : stops) {
            Checks.same("where it was", last, h.stop(stop));
            Checks.same("where it is", stop, h.told(8));
            last = stop;
        }
    }

    /** "its CELLS with those in use are not above the ROOM": 40 may be, 41 not. */
    private static void fullRoom() {
        for (int width : new int[] {4, 5}) {
            PictureCodingHouse h = house(3, 12, 12);
            h.picture(3, width, 12);
            // the first three wait for the fourth one, which waits for nothing
            for (int k = 0; k < 3; k++) {
                h.need(k, 0, 3, 1);
            }
            int end = h.batch(16, 9, 2, 0);
            Checks.same("36 and " + width, width == 4 ? 0 : -2, end);
            Checks.same("the most cells", width == 4 ? 40 : 36, h.told(13));
            Checks.same("begun", width == 4 ? 1 : 0, h.waited(3, 3));
            Checks.same("steps", width == 4 ? 4 * 12 + 4 : 0, h.told(12));
        }
        PictureCodingHouse h = house(8, 5, 3);
        for (int k = 0; k < 7; k++) {
            h.need(k, 0, 7, 1);
        }
        Checks.same("eight of five are 40", 0, h.batch(8, 3, 2, 0));
        Checks.same("the most cells", 40, h.told(13));
        h = house(8, 5, 3);
        h.picture(0, 6, 3);
        for (int k = 0; k < 7; k++) {
            h.need(k, 0, 7, 1);
        }
        Checks.same("one cell more", -2, h.batch(8, 3, 2, 0));
        Checks.same("the most cells", 36, h.told(13));
        // the first of the queue can't be taken: later ones are not looked at
        h = house(4, 12, 12);
        for (int k = 0; k < 3; k++) {
            h.need(k, 0, 4, 1);
        }
        Checks.same("a small one is behind it", -2, h.batch(16, 3, 2, 0));
        Checks.same("not begun", 0, h.waited(4, 4));
    }

    /** "else the TICK is IDLE": no SHARE in the QUEUE, or none that can be taken. */
    private static void idleTicks() {
        PictureCodingHouse h = house(1, 1, 12);
        for (int share = 1; share < 8; share++) {
            h.need(share, 0, 0, 12);
        }
        Checks.same("batch", 0, h.batch(16, 3, 2, 0));
        Checks.holds("some were idle: eight workers have nothing to take", h.told(10) > 0);
        Checks.same("ticks are taking, waiting, steps and idle", h.told(9), 8 + h.told(11) + h.told(12) + h.told(10));
        PictureCodingHouse one = new PictureCodingHouse();
        Checks.same("batch", 0, one.batch(1, 3, 2, 0));
        Checks.same("one worker is never idle", 0, one.told(10));
    }

    /** "it lives no more, the SHARE has DONE no step, .. and it comes to the end of the QUEUE". */
    private static void failsAndBegins() {
        PictureCodingHouse h = house(1, 12, 3);
        h.failing(0, 0, 2, 1);
        h.failing(1, 0, 2, 1);
        int end = h.batch(3, 21, 2, 0);
        Checks.same("all finished", 0, end);
        int begun = h.waited(0, 0);
        Checks.same("a worker less for each that failed", 3 - (begun - 1), h.told(14));
        Checks.same("steps that were done", 3 + 7 + 2 * (begun - 1), h.told(12));
        Checks.same("the value is as without", step(step(step(start(36), 0, 0), 1, 0), 2, 0), h.value(0));
        // one worker of one fails in front of the first step, of the second, of the third; the fourth is none
        for (int s = 0; s <= 3; s++) {
            PictureCodingHouse one = house(1, 12, 3);
            one.failing(0, 0, s, 1);
            Checks.same("in front of step " + s, s < 3 ? -1 : 0, one.batch(1, 1, 2, 0));
            Checks.same("steps", s < 3 ? s : 3 + 7, one.told(12));
            Checks.same("begun", 1, one.waited(0, 0));
            Checks.same("living", s < 3 ? 0 : 1, one.told(14));
            Checks.same("finished", s < 3 ? 0 : 8, one.told(15));
        }
        cellsOfOneThatFails();
    }

    /** "its CELLS are in use no more": 36 are in use, and all wait for share 3, but for share 0, which fails. */
    private static void cellsOfOneThatFails() {
        int failed = 0;
        for (int seed = 0; seed < 20; seed++) {
            PictureCodingHouse h = house(4, 12, 12);
            for (int k = 0; k < 3; k++) {
                h.need(k, k == 0 ? 1 : 0, 3, 1);
            }
            Checks.same("stuck", -2, h.batch(8, seed, 2, 0));
            Checks.same("the most cells", 36, h.told(13));
            for (int worker = 0; worker < 7; worker++) {
                h.failing(worker, 0, 0, 1);
            }
            int end = h.batch(8, seed, 2, 0);
            if (h.waited(0, 0) > 1) {
                Checks.same("share 3 is taken in its place", 1, h.waited(3, 3));
                Checks.same("and all end", 0, end);
                Checks.same("as many failed", 8 - (h.waited(0, 0) - 1), h.told(14));
                failed++;
            } else {
                Checks.same("worker 7 had it first", -2, end);
            }
        }
        Checks.holds("some failed " + failed, failed > 5);
    }

    private static long start(int zeros) {
        long start = 1;
        for (int i = 0; i < zeros; i++) {
            start *= 31;
        }
        return start;
    }

    /** WAITING is looked at before a FAILING. */
    private static void waitsBeforeItFails() {
        PictureCodingHouse h = new PictureCodingHouse();
        h.need(0, 0, 1, 1);
        h.failing(0, 0, 0, 1);
        Checks.same("it waits, and does not fail", -2, h.batch(1, 1, 2, 0));
        Checks.same("living", 1, h.told(14));
        h.free(0);
        Checks.same("it fails, if it need not wait", -1, h.batch(1, 1, 2, 0));
        Checks.same("living", 0, h.told(14));
        Checks.same("ticks", 2, h.told(9));
        // another worker, share or step does not fail
        PictureCodingHouse other = house(2, 1, 2);
        other.failing(1, 0, 0, 9);
        other.failing(0, 0, 2, 9);
        other.failing(0, 2, 1, 9);
        Checks.same("another worker, share or step", 0, other.batch(1, 1, 2, 0));
    }

    /** "so many times in each batch". */
    private static void failingsOfEachBatch() {
        PictureCodingHouse h = new PictureCodingHouse();
        h.failing(0, 3, 0, 1);
        for (int i = 0; i < 3; i++) {
            Checks.same("batch " + i, -1, h.batch(1, i, 2, 0));
            Checks.same("finished", 3, h.told(15));
        }
        for (int i = 2; i <= 8; i++) {
            h.failing(0, 3, 0, 9);
        }
        Checks.same("one for the same three counts behind the others", -1, h.batch(1, 5, 2, 0));
        h.clear();
        Checks.same("none are left", 0, h.batch(1, 5, 2, 0));
    }

    private static void noWorkerLives() {
        for (int workers = 1; workers <= 8; workers++) {
            PictureCodingHouse h = new PictureCodingHouse();
            for (int worker = 0; worker < workers; worker++) {
                h.failing(worker, 7, 0, 1);
            }
            Checks.same("all fail by share 7", -1, h.batch(workers, 3, 2, 0));
            Checks.same("living", 0, h.told(14));
            Checks.same("finished", 7, h.told(15));
            Checks.same("begun", workers, h.waited(7, 7));
            Checks.same("no value is put", 0, h.told(16));
            Checks.same("one more worker", 0, h.batch(workers + 1, 3, 2, 0));
            Checks.holds("it lives", h.told(14) >= 1);
        }
    }

    /** "the SHARE with STOP is FINISHED: 1", and values of all that are FINISHED by then. */
    private static void stops() {
        for (int stop = 0; stop < 8; stop++) {
            PictureCodingHouse h = house(8, 2, 2);
            h.stop(stop);
            // by one worker the last share is finished when all are
            Checks.same("stop at " + stop, stop == 7 ? 0 : 1, h.batch(1, 1, 2, 0));
            Checks.same("finished", stop + 1, h.told(15));
            Checks.same("values", stop + 1, h.told(16));
            Checks.same("ticks", 3 * (stop + 1), h.told(9));
            for (int share = 0; share < 8; share++) {
                int one = share;
                Checks.holds("file of " + share, h.size(2, share, 0) > 0 == share <= stop);
                if (share > stop) {
                    Checks.refused("no value", IllegalStateException.class, h, () -> h.value(one));
                }
            }
            h.stop(-1);
            Checks.same("no stop", 0, h.batch(1, 1, 2, 0));
            Checks.same("values", 8, h.told(16));
        }
    }

    /** "the batch ends by the first of these": 0 before 1, -1 before -2. */
    private static void endsInOrder() {
        PictureCodingHouse h = new PictureCodingHouse();
        h.stop(7);
        Checks.same("all, and the one with STOP: 0", 0, h.batch(1, 1, 2, 0));
        h.need(1, 0, 2, 1);
        h.stop(0);
        Checks.same("STOP before it is stuck: 1", 1, h.batch(1, 1, 2, 0));
        h.stop(-1);
        Checks.same("stuck: -2", -2, h.batch(1, 1, 2, 0));
        h.failing(0, 0, 0, 1);
        Checks.same("no worker lives, before it is stuck: -1", -1, h.batch(1, 1, 2, 0));
    }

    /** "the file of the same number is written" by the FORM, for those that are FINISHED and THERE. */
    private static void filesOfEnds() {
        int[][] forms = {{0, 0}, {0, 3}, {1, 0}, {1, 1}, {1, 60000}, {2, 0}, {3, 1}, {3, 2}};
        for (int[] form : forms) {
            PictureCodingHouse h = new PictureCodingHouse();
            Random random = new Random(3);
            for (int k = 0; k < 8; k += 2) {
                Checks.draw(h, k, Checks.greys(random, 12, 12, 255));
                h.shape(k, 3, 3, 4, false);
            }
            for (int f = 0; f < 12; f++) {
                Checks.load(h, f, new int[] {f, 9});
            }
            h.stop(5);
            Checks.same("stopped", 1, h.batch(1, 1, form[0], form[1]));
            for (int f = 0; f < 11; f++) {
                if (f % 2 == 1 || f > 5) {
                    Checks.same("file " + f + " stays", new int[] {f, 9}, Checks.file(h, f));
                } else {
                    int n = form[0] == 0 ? h.lines(f, 1, 0, form[1], 0, 11) : form[0] == 1 ? h.waves(f, form[1], 11)
                            : form[0] == 2 ? h.chunks(f, 11) : h.greys(f, form[1], 11);
                    Checks.same("file " + f, n, h.size(2, f, 0));
                    Checks.same("file " + f, Checks.file(h, 11), Checks.file(h, f));
                }
            }
        }
    }

    /** "else all values, and files, are as before". */
    private static void filesAsBefore() {
        for (int end : new int[] {-1, -2}) {
            PictureCodingHouse h = house(8, 3, 2);
            Checks.same("batch", 0, h.batch(2, 1, 2, 0));
            long[] values = new long[8];
            for (int share = 0; share < 8; share++) {
                values[share] = h.value(share);
                h.put(share, 0, 0, 3, 50 + share);
                h.alter(share, 0, 1);
            }
            if (end == -1) {
                h.failing(0, 7, 1, 1);
            } else {
                h.need(7, 1, 6, 20);
            }
            Checks.same("batch", end, h.batch(1, 1, 0, 0));
            Checks.same("seven are finished", 7, h.told(15));
            Checks.same("values", 8, h.told(16));
            for (int share = 0; share < 8; share++) {
                Checks.same("value " + share, values[share], h.value(share));
                Checks.same("file " + share, 1, h.byteAt(share, 0));
                Checks.same("file " + share, 80, h.byteAt(share, 1));
            }
            h.free(7);
            Checks.same("batch", 0, h.batch(2, 1, 0, 0));
            Checks.holds("other values", h.value(0) != values[0]);
            Checks.same("other files", 255, h.byteAt(7, 0));
        }
    }

    /** "Of the latest batch, however it ended". */
    private static void whatIsLeftOfTheLatest() {
        PictureCodingHouse h = house(8, 1, 1);
        Checks.same("batch", 0, h.batch(1, 1, 2, 0));
        h.need(0, 0, 1, 1);
        Checks.same("stuck", -2, h.batch(1, 1, 2, 0));
        Checks.same("ticks", 1, h.told(9));
        Checks.same("steps", 0, h.told(12));
        Checks.same("cells", 1, h.told(13));
        Checks.same("finished", 0, h.told(15));
        Checks.refused("finished", IndexOutOfBoundsException.class, h, () -> h.finished(0));
        Checks.same("begun", 1, h.waited(0, 0));
        Checks.same("not begun", 0, h.waited(1, 1));
        String first = Checks.things(h);
        Checks.refused("one that throws is none", IllegalArgumentException.class, h, () -> h.batch(17, 1, 2, 0));
        Checks.holds("nothing of it", first.equals(Checks.things(h)));
        Checks.same("values of the first one", 8, h.told(16));
        h.picture(0, 5, 5);
        Checks.same("pictures do not matter", 1, h.told(9));
        h.free(0);
        Checks.same("not before the next one", 1, h.waited(0, 0));
    }

    /** A SEED is any number of 64 bits; the same one makes the same batch. */
    private static void seeds() {
        long[] seeds = {0, 1, -1, Long.MAX_VALUE, Long.MIN_VALUE, 1442695040888963407L, 0x7FFFFFFF00000000L};
        for (long seed : seeds) {
            PictureCodingHouse one = house(8, 7, 5);
            PictureCodingHouse two = house(8, 7, 5);
            for (int share = 1; share < 8; share++) {
                one.need(share, 2, share - 1, 4);
                two.need(share, 2, share - 1, 4);
            }
            Checks.same("batch", 0, one.batch(5, seed, 2, 0));
            Checks.same("batch", 0, two.batch(5, seed, 2, 0));
            Checks.holds("the same", Checks.things(one).equals(Checks.things(two)));
            PictureCodingHouse other = house(8, 7, 5);
            for (int share = 1; share < 8; share++) {
                other.need(share, 2, share - 1, 4);
            }
            Checks.same("another order of work", 0, other.batch(11, seed + 1, 2, 0));
            for (int share = 0; share < 8; share++) {
                Checks.same("the same values", one.value(share), other.value(share));
                Checks.same("the same files", Checks.file(one, share), Checks.file(other, share));
            }
        }
        // the first tick of two workers by hand: x by the factor and the addend, its bit 33 tells the worker
        for (long seed = 0; seed < 20; seed++) {
            PictureCodingHouse h = new PictureCodingHouse();
            for (int share = 0; share < 8; share++) {
                h.failing(0, share, 0, 1);
            }
            h.need(0, 0, 1, 1);
            int worker = (int) ((seed * FACTOR + 1442695040888963407L >>> 33) % 2);
            h.batch(2, seed, 2, 0);
            // worker 1 never fails; worker 0 fails with the first share that it need not wait for
            Checks.same("share 0 is begun", 1, h.waited(0, 0) > 0 ? 1 : 0);
            Checks.holds("worker " + worker, h.told(14) >= 1);
        }
    }

    private static void manyWorkers() {
        for (int workers = 1; workers <= 16; workers++) {
            PictureCodingHouse h = house(8, 5, 12);
            Checks.same("workers " + workers, 0, h.batch(workers, workers, 3, 1));
            Checks.same("living", workers, h.told(14));
            Checks.same("steps", 96, h.told(12));
            Checks.same("no one waited", 0, h.told(11));
            Checks.same("ticks", h.told(9), 8 + 96 + h.told(10));
            Checks.holds("cells", h.told(13) <= 5 * Math.min(8, workers) && h.told(13) % 5 == 0);
        }
    }
}
