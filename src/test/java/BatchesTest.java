import java.util.ArrayList;
import java.util.List;
import java.util.Random;

/** Promises 16 to 19: need, free, failing, stop, batch, value, finished, waited and told. */
public final class BatchesTest {
    private static final long FACTOR = 6364136223846793005L;

    public static void main(String[] args) {
        wrongCalls();
        values();
        ends();
        stuckByRoom();
        forms();
        sameAsReference();
        Checks.end();
    }

    private static void wrongCalls() {
        PictureCodingHouse house = new PictureCodingHouse();
        Checks.index("need", () -> house.need(8, 0, 0, 1));
        Checks.index("need", () -> house.need(0, 99, 8, 1));
        Checks.index("need", () -> house.need(0, 99, -1, 1));
        Checks.argument("need", () -> house.need(0, 20, 1, 1));
        Checks.argument("need", () -> house.need(0, -1, 1, 1));
        Checks.argument("need", () -> house.need(0, 0, 1, 0));
        Checks.argument("need", () -> house.need(0, 0, 1, 21));
        Checks.argument("need of itself", () -> house.need(3, 0, 3, 1));
        for (int i = 1; i <= 6; i++) {
            Checks.same("need", i, house.need(0, 19, 7, 20));
        }
        Checks.support("a seventh", () -> house.need(0, 19, 7, 20));
        Checks.argument("a seventh", () -> house.need(0, 20, 7, 20));
        Checks.same("another share's", 1, house.need(1, 0, 0, 1));
        Checks.same("free", 6, house.free(0));
        Checks.same("free", 0, house.free(0));
        Checks.same("need", 1, house.need(0, 0, 7, 1));
        Checks.index("free", () -> house.free(8));
        Checks.index("failing", () -> house.failing(16, 8, 0, 1));
        Checks.argument("failing", () -> house.failing(16, 0, 0, 1));
        Checks.argument("failing", () -> house.failing(-1, 0, 0, 1));
        Checks.argument("failing", () -> house.failing(0, 0, 20, 1));
        Checks.argument("failing", () -> house.failing(0, 0, -1, 1));
        Checks.argument("failing", () -> house.failing(0, 0, 0, 0));
        Checks.argument("failing", () -> house.failing(0, 0, 0, 10));
        for (int i = 1; i <= 8; i++) {
            Checks.same("failing", i, house.failing(15, 7, 19, 9));
        }
        Checks.support("a ninth", () -> house.failing(0, 0, 0, 1));
        Checks.argument("a ninth", () -> house.failing(0, 0, 0, 0));
        Checks.same("told failings", 8, house.told(7));
        Checks.same("stop", -1, house.stop(7));
        Checks.same("stop", 7, house.stop(0));
        Checks.same("told stop", 0, house.told(8));
        Checks.same("stop", 0, house.stop(-1));
        Checks.same("told stop", -1, house.told(8));
        Checks.index("stop", () -> house.stop(8));
        Checks.index("stop", () -> house.stop(-2));
        int[][] wrong = {{0, 0, 0}, {17, 0, 0}, {1, 4, 0}, {1, -1, 0}, {1, 0, 4}, {1, 0, -1}, {1, 1, -1},
            {1, 1, 60001}, {1, 2, 1}, {1, 2, -1}, {1, 3, 0}, {1, 3, 3}};
        for (int[] w : wrong) {
            Checks.argument("batch", () -> house.batch(w[0], 1, w[1], w[2]));
        }
        Checks.index("value", () -> house.value(8));
        Checks.state("value", () -> house.value(0));
        Checks.index("finished", () -> house.finished(0));
        Checks.index("waited", () -> house.waited(8, 0));
        Checks.index("waited", () -> house.waited(0, -1));
        Checks.same("no work", 0, house.told(0));
    }

    private static void values() {
        PictureCodingHouse house = new PictureCodingHouse();
        Checks.draw(house, 2, new int[][] {{5, 6}, {7, 8}});
        house.shape(2, 0, 0, 1, false);
        house.need(2, 1, 3, 1);
        Checks.same("batch", 0, house.batch(1, 9, 2, 0) & 0);
        long start = 1;
        for (int v : new int[] {5, 6, 7, 8}) {
            start = start * 31 + v;
        }
        long three = 3 * FACTOR + 1;
        three ^= three >>> 29;
        long one = start * FACTOR + 1;
        one ^= one >>> 29;
        long two = one * FACTOR + 2 + three;
        two ^= two >>> 29;
        PictureCodingHouse other = new PictureCodingHouse();
        Checks.draw(other, 2, new int[][] {{5, 6}, {7, 8}});
        other.need(2, 1, 3, 1);
        Checks.same("batch", 0, other.batch(3, 9, 2, 0));
        Checks.same("value", two, other.value(2));
        Checks.same("value", three, other.value(3));
        Checks.same("all have one", 8, other.told(16));
    }

    private static void ends() {
        PictureCodingHouse house = new PictureCodingHouse();
        Checks.same("all finished", 0, house.batch(2, 1, 2, 0));
        Checks.same("finished", 8, house.told(15));
        long before = house.value(5);
        house.need(0, 0, 1, 1);
        house.need(1, 0, 0, 1);
        Checks.same("stuck", -2, house.batch(2, 1, 2, 0));
        Checks.same("values are as before", before, house.value(5));
        Checks.same("value count", 8, house.told(16));
        house.free(1);
        Checks.same("all finished", 0, house.batch(2, 1, 2, 0));
        Checks.same("stuck with one worker", -2, house.batch(1, 1, 2, 0));
        // share 0 is begun in the first tick, and waits then
        Checks.same("one tick", 1, house.told(9));
        Checks.same("begun", 1, house.waited(0, 0));
        Checks.same("waited", 0, house.waited(0, 1));
        Checks.same("finished none", 0, house.told(15));
        Checks.index("finished", () -> house.finished(0));
        house.free(0);
        house.need(4, 0, 5, 2);
        house.stop(3);
        Checks.same("stopped", 1, house.batch(1, 77, 2, 0));
        Checks.same("four are finished", 4, house.told(15));
        Checks.same("they have values", 4, house.told(16));
        Checks.state("others have none", () -> house.value(4));
        Checks.same("ticks", 8, house.told(9));
        Checks.same("steps", 4, house.told(12));
        house.stop(-1);
        house.failing(0, 2, 0, 9);
        Checks.same("no worker lives", -1, house.batch(1, 5, 2, 0));
        Checks.same("living", 0, house.told(14));
        Checks.same("finished", 2, house.told(15));
        Checks.same("finished", 1, house.finished(1));
        Checks.same("values are as before", 4, house.told(16));
        Checks.same("two workers do it, but for one", -2, house.batch(2, 5, 2, 0));
    }

    private static void stuckByRoom() {
        PictureCodingHouse house = new PictureCodingHouse();
        for (int k = 0; k < 8; k++) {
            house.picture(k, 12, 2);
        }
        // three shares take 36 cells, all wait for the last one, which none can take
        for (int k = 0; k < 3; k++) {
            house.need(k, 1, 7, 1);
        }
        Checks.same("stuck", -2, house.batch(16, 3, 2, 0));
        Checks.same("cells", 36, house.told(13));
        Checks.holds("some ticks were idle", house.told(10) >= 0);
        Checks.same("steps", 3, house.told(12));
        house.free(0);
        Checks.same("one goes on", 0, house.batch(16, 3, 2, 0));
    }

    private static void forms() {
        Random random = new Random(61);
        for (int form = 0; form < 4; form++) {
            for (int number : form == 0 ? new int[] {0, 3} : form == 1 ? new int[] {0, 77, 60000}
                    : form == 2 ? new int[] {0} : new int[] {1, 2}) {
                PictureCodingHouse house = new PictureCodingHouse();
                for (int k = 0; k < 8; k += 2) {
                    Checks.draw(house, k, Checks.greys(random, 1 + random.nextInt(12), 1 + random.nextInt(12), 255));
                    house.shape(k, 0, 0, 2, false);
                }
                Checks.load(house, 1, new int[] {1, 2, 3});
                Checks.same("batch", 0, house.batch(4, 8, form, number));
                Checks.same("work", 9, house.told(0));
                Checks.same("a file stays", new int[] {1, 2, 3}, Checks.file(house, 1));
                Checks.same("a file stays", 0, house.size(2, 3, 0));
                for (int k = 0; k < 8; k += 2) {
                    int due = form == 0 ? house.lines(k, 1, 0, number, 0, 9) : form == 1 ? house.waves(k, number, 9)
                            : form == 2 ? house.chunks(k, 9) : house.greys(k, number, 9);
                    Checks.same("length", due, house.size(2, k, 0));
                    Checks.same("file", Checks.file(house, 9), Checks.file(house, k));
                }
            }
        }
    }

    // ---- a plain reading of the document

    private static final class Share {
        int number;
        int steps = 1;
        int cells = 1;
        int begun = 0;
        boolean finished = false;
        List<Long> values = new ArrayList<>();
        List<int[]> needs = new ArrayList<>();
        int[] waited = new int[8];

        int done() {
            return values.size() - 1;
        }

        Share blocking(Share[] shares) {
            for (int[] need : needs) {
                if (need[0] == done() && shares[need[1]].done() < need[2]) {
                    return shares[need[1]];
                }
            }
            return null;
        }
    }

    private static final class Worker {
        int number;
        Share share;
    }

    private static void sameAsReference() {
        Random random = new Random(62);
        int[] seen = new int[4];
        for (int run = 0; run < 600; run++) {
            PictureCodingHouse house = new PictureCodingHouse();
            Share[] shares = new Share[8];
            List<Share> queue = new ArrayList<>();
            for (int k = 0; k < 8; k++) {
                Share share = new Share();
                share.number = k;
                long start = k;
                if (random.nextInt(5) > 0) {
                    int[][] grey = Checks.greys(random, 1 + random.nextInt(12), 1 + random.nextInt(12), 255);
                    Checks.draw(house, k, grey);
                    start = 1;
                    for (int[] row : grey) {
                        for (int v : row) {
                            start = start * 31 + v;
                        }
                    }
                    share.steps = grey.length;
                    share.cells = grey[0].length;
                }
                share.values.add(start);
                shares[k] = share;
                queue.add(share);
            }
            for (int i = random.nextInt(14); i > 0; i--) {
                int k = random.nextInt(8);
                int other = random.nextInt(8);
                int s = random.nextInt(Math.min(20, shares[k].steps + 1));
                int m = 1 + random.nextInt(shares[other].steps + random.nextInt(2) * random.nextInt(2));
                if (k != other && shares[k].needs.size() < 6) {
                    house.need(k, s, other, m);
                    shares[k].needs.add(new int[] {s, other, m});
                }
            }
            int w = 1 + random.nextInt(16);
            List<int[]> failings = new ArrayList<>();
            for (int i = random.nextInt(9); i > 0; i--) {
                int[] failing = {random.nextInt(w), random.nextInt(8), random.nextInt(4), 1 + random.nextInt(9)};
                house.failing(failing[0], failing[1], failing[2], failing[3]);
                failings.add(failing);
            }
            int stop = random.nextInt(4) == 0 ? random.nextInt(8) : -1;
            house.stop(stop);
            long seed = random.nextLong();
            int[] told = new int[16];
            List<Integer> order = new ArrayList<>();
            int due = simulate(shares, queue, failings, w, stop, seed, told, order);
            seen[due < 0 ? 2 - Math.max(-2, due) - 1 : due]++;
            Checks.same("batch " + run, due, house.batch(w, seed, 3, 1));
            for (int what = 9; what < 16; what++) {
                Checks.same("told " + what, told[what], house.told(what));
            }
            for (int i = 0; i < order.size(); i++) {
                Checks.same("finished", order.get(i), house.finished(i));
            }
            for (int k = 0; k < 8; k++) {
                for (int other = 0; other < 8; other++) {
                    Checks.same("waited", k == other ? shares[k].begun : shares[k].waited[other], house.waited(k, other));
                }
                int share = k;
                if (due >= 0 && shares[k].finished) {
                    Checks.same("value", shares[k].values.get(shares[k].steps), house.value(k));
                    Checks.holds("file", house.size(2, k, 0) > 0 == house.size(0, k, 0) > 0);
                } else {
                    Checks.state("value", () -> house.value(share));
                    Checks.same("no file", 0, house.size(2, k, 0));
                }
            }
        }
        Checks.holds("all ends were seen: " + java.util.Arrays.toString(seen),
                seen[0] > 20 && seen[1] > 20 && seen[2] > 5 && seen[3] > 20);
    }

    private static int simulate(Share[] shares, List<Share> queue, List<int[]> failings, int w, int stop, long seed,
            int[] told, List<Integer> order) {
        List<Worker> living = new ArrayList<>();
        for (int i = 0; i < w; i++) {
            Worker worker = new Worker();
            worker.number = i;
            living.add(worker);
        }
        int[] left = new int[failings.size()];
        for (int i = 0; i < left.length; i++) {
            left[i] = failings.get(i)[3];
        }
        long x = seed;
        int used = 0;
        while (true) {
            told[14] = living.size();
            told[15] = order.size();
            if (order.size() == 8) {
                return 0;
            }
            if (stop >= 0 && shares[stop].finished) {
                return 1;
            }
            if (living.isEmpty()) {
                return -1;
            }
            boolean stuck = true;
            for (Worker worker : living) {
                if (worker.share == null) {
                    stuck &= queue.isEmpty() || queue.get(0).cells + used > 40;
                } else {
                    stuck &= worker.share.blocking(shares) != null;
                }
            }
            if (stuck) {
                return -2;
            }
            if (told[9] == 20000) {
                return -3;
            }
            told[9]++;
            x = x * FACTOR + 1442695040888963407L;
            Worker worker = living.get((int) ((x >>> 33) % living.size()));
            Share share = worker.share;
            if (share == null) {
                if (!queue.isEmpty() && queue.get(0).cells + used <= 40) {
                    worker.share = queue.remove(0);
                    worker.share.begun++;
                    used += worker.share.cells;
                    told[13] = Math.max(told[13], used);
                } else {
                    told[10]++;
                }
                continue;
            }
            Share other = share.blocking(shares);
            if (other != null) {
                share.waited[other.number]++;
                told[11]++;
                continue;
            }
            boolean fails = false;
            for (int i = 0; i < left.length && !fails; i++) {
                int[] f = failings.get(i);
                if (f[0] == worker.number && f[1] == share.number && f[2] == share.done() && left[i] > 0) {
                    left[i]--;
                    fails = true;
                }
            }
            if (fails) {
                living.remove(worker);
                used -= share.cells;
                while (share.values.size() > 1) {
                    share.values.remove(1);
                }
                queue.add(share);
                continue;
            }
            int s = share.done();
            long v = share.values.get(s) * FACTOR + (s + 1);
            for (int[] need : share.needs) {
                if (need[0] == s) {
                    v += shares[need[1]].values.get(need[2]);
                }
            }
            share.values.add(v ^ v >>> 29);
            told[12]++;
            if (share.done() == share.steps) {
                share.finished = true;
                order.add(share.number);
                used -= share.cells;
                worker.share = null;
            }
        }
    }
}
