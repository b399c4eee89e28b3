import java.util.ArrayList;
import java.util.List;
import java.util.Random;

/**
 * Promises 7 to 12 and 18: what a call answers and changes is told by the pictures, sheets, files, NEEDS, FAILINGS and
 * STOP that are there alone: a house that has done much else before does the same as a new one that was given these.
 */
public final class LeftOversTest {
    private static final int CALLS = 240;

    private static Random random;
    private static List<int[]> needs;
    private static List<int[]> failings;
    private static int stop;

    public static void main(String[] args) {
        for (int run = 0; run < 24; run++) {
            random = new Random(7000 + run);
            needs = new ArrayList<>();
            failings = new ArrayList<>();
            stop = -1;
            PictureCodingHouse house = new PictureCodingHouse();
            for (int i = 0; i < CALLS; i++) {
                change(house);
                int which = random.nextInt(26);
                long seed = random.nextLong();
                boolean isBatch = house.told(0) <= 291 && i % 60 == 59;
                PictureCodingHouse other = anew(house);
                int due = isBatch ? batch(other, seed) : call(other, which, seed);
                int got = isBatch ? batch(house, seed) : call(house, which, seed);
                String what = "run " + run + " call " + i + (isBatch ? " batch" : " sort " + which);
                Checks.same(what, due, got);
                Checks.holds(what + " leaves the same", left(other).equals(left(house)));
                if (isBatch) {
                    Checks.holds(what + " is told the same", ofBatch(other, got).equals(ofBatch(house, got)));
                }
            }
        }
        Checks.end();
    }

    // ---- what is there

    private static void change(PictureCodingHouse house) {
        int k = random.nextInt(8);
        int s = random.nextInt(4);
        int f = random.nextInt(12);
        switch (random.nextInt(12)) {
            case 0:
                int[][] grey = Checks.greys(random, 1 + random.nextInt(12), 1 + random.nextInt(12), 255);
                Checks.draw(house, k, grey);
                if (random.nextBoolean()) {
                    Checks.mask(house, k, Checks.maskOf(random, grey[0].length, grey.length));
                }
                break;
            case 1: Checks.drawSheet(house, s, TextsTest.someSheet(random)); break;
            case 2: case 3: case 4:
                if (house.size(2, f, 0) > 0) {
                    house.alter(f, random.nextInt(house.size(2, f, 0)), random.nextInt(256));
                }
                break;
            case 5: house.cut(f, random.nextInt(200)); break;
            case 6: house.copy(k, random.nextInt(8)); break;
            case 7: changeBatches(house, k); break;
            case 8: Checks.load(house, f, PacksTest.someBytes(random)); break;
            // these have what no writing call writes: the next call that reads them may leave something
            case 9: Checks.load(house, random.nextInt(3), SecondReadingTest.lineFile(random)); break;
            case 10: Checks.load(house, random.nextInt(3), SecondReadingTest.chunkFile(random)); break;
            default: Checks.load(house, random.nextInt(3), SecondReadingTest.textFile(random)); break;
        }
    }

    private static void changeBatches(PictureCodingHouse house, int share) {
        int other = (share + 1 + random.nextInt(7)) % 8;
        switch (random.nextInt(5)) {
            case 0:
                house.free(share);
                needs.removeIf(need -> need[0] == share);
                break;
            case 1:
                if (failings.size() < 8) {
                    failings.add(new int[] {random.nextInt(4), share, random.nextInt(4), 1 + random.nextInt(2)});
                    tellFailing(house, failings.get(failings.size() - 1));
                }
                break;
            case 2:
                stop = random.nextInt(9) - 1;
                house.stop(stop);
                break;
            default:
                if (needs.stream().filter(need -> need[0] == share).count() < 6) {
                    needs.add(new int[] {share, random.nextInt(6), other, 1 + random.nextInt(3)});
                    tellNeed(house, needs.get(needs.size() - 1));
                }
                break;
        }
    }

    private static void tellNeed(PictureCodingHouse house, int[] need) {
        house.need(need[0], need[1], need[2], need[3]);
    }

    private static void tellFailing(PictureCodingHouse house, int[] failing) {
        house.failing(failing[0], failing[1], failing[2], failing[3]);
    }

    private static PictureCodingHouse anew(PictureCodingHouse house) {
        PictureCodingHouse other = new PictureCodingHouse();
        for (int k = 0; k < 8; k++) {
            int width = house.size(0, k, 0);
            int height = house.size(0, k, 1);
            if (width > 0) {
                other.picture(k, width, height);
                for (int i = 0; i < width * height; i++) {
                    other.put(k, i % width, i / width, 1, house.at(k, i % width, i / width));
                    other.shape(k, i % width, i / width, 1, house.isInside(k, i % width, i / width));
                }
            }
        }
        for (int s = 0; s < 4; s++) {
            if (house.size(1, s, 0) > 0) {
                Checks.drawSheet(other, s, Checks.sheet(house, s));
            }
        }
        for (int f = 0; f < 12; f++) {
            Checks.load(other, f, Checks.file(house, f));
        }
        for (int[] need : needs) {
            tellNeed(other, need);
        }
        for (int[] failing : failings) {
            tellFailing(other, failing);
        }
        other.stop(stop);
        return other;
    }

    // ---- calls

    /** A call by a seed: its answer, or a number below all answers for its exception. */
    private static int call(PictureCodingHouse h, int which, long seed) {
        Random some = new Random(seed);
        int k = some.nextInt(8);
        int s = some.nextInt(4);
        // few files: what one call has written is read by another one
        int f = some.nextInt(3);
        try {
            switch (which) {
                case 0: return h.lines(k, 1, some.nextInt(3), some.nextInt(4), some.nextInt(2) * some.nextInt(13), f);
                case 1: return h.unline(f, k);
                case 2: return h.waves(k, some.nextBoolean() ? 60000 : some.nextInt(600), f);
                case 3: return h.unwave(f, some.nextBoolean() ? 60000 : some.nextInt(600), k);
                case 4: return h.wave(k, some.nextInt(12), some.nextInt(12));
                case 5: return h.chunks(k, f);
                case 6: return h.unchunk(f, k);
                case 7: return h.pack(f, some.nextInt(10), some.nextInt(3));
                case 8: return h.unpack(f, some.nextInt(3));
                case 9: return h.halftone(k, 1 + some.nextInt(2), s);
                case 10: return h.shade(s, 1 + some.nextInt(3), k);
                case 11: return h.greys(k, 1 + some.nextInt(2), f);
                case 12: return h.ungrey(f, k);
                case 13: return h.parts(s, some.nextInt(2));
                case 14: return h.text(s, some.nextInt(2), some.nextInt(9), f);
                case 15: return h.untext(f, s);
                case 16: return h.book(s, 1 + some.nextInt(2), some.nextInt(3), some.nextInt(25), f);
                case 17: return h.unbook(f, some.nextInt(3), s);
                default: return readAsWritten(h, f, k, s, some);
            }
        } catch (IndexOutOfBoundsException e) {
            return -10000;
        } catch (IllegalStateException e) {
            return -10001;
        } catch (UnsupportedOperationException e) {
            return -10002;
        }
    }

    /** Reads a file by what its first byte tells of it. */
    private static int readAsWritten(PictureCodingHouse h, int f, int k, int s, Random some) {
        switch (h.byteAt(f, 0)) {
            case 255: return h.unline(f, k);
            case 137: return h.unchunk(f, k);
            case 80: return h.unpack(f, some.nextInt(3));
            case 72: return h.ungrey(f, k);
            case 84: return h.untext(f, s);
            case 151: return h.unbook(f, some.nextInt(2), s);
            default: return h.unwave(f, 60000, k);
        }
    }

    private static int batch(PictureCodingHouse h, long seed) {
        Random some = new Random(seed);
        int form = some.nextInt(4);
        int number = form == 2 ? 0 : 1 + some.nextInt(2);
        return h.batch(1 + some.nextInt(16), seed, form, number);
    }

    // ---- what is left

    private static String left(PictureCodingHouse h) {
        StringBuilder text = new StringBuilder();
        for (int k = 0; k < 8; k++) {
            text.append(h.size(0, k, 0)).append('x').append(h.size(0, k, 1)).append(' ');
            for (int y = 0; y < h.size(0, k, 1); y++) {
                for (int x = 0; x < h.size(0, k, 0); x++) {
                    text.append(h.at(k, x, y)).append(h.isInside(k, x, y) ? '+' : '-');
                }
            }
        }
        for (int s = 0; s < 4; s++) {
            text.append(h.size(1, s, 0)).append('x').append(h.size(1, s, 1)).append(' ');
            text.append(String.join("/", h.size(1, s, 0) > 0 ? Checks.sheet(h, s) : new String[0]));
        }
        for (int f = 0; f < 12; f++) {
            text.append(java.util.Arrays.toString(Checks.file(h, f)));
        }
        return text.toString();
    }

    private static String ofBatch(PictureCodingHouse h, int end) {
        StringBuilder text = new StringBuilder();
        for (int what = 9; what <= 15; what++) {
            text.append(h.told(what)).append(' ');
        }
        for (int i = 0; i < h.told(15); i++) {
            text.append(h.finished(i));
            // by another end values are as before
            if (end >= 0) {
                text.append('=').append(h.value(h.finished(i))).append(' ');
            }
        }
        for (int k = 0; k < 8; k++) {
            for (int other = 0; other < 8; other++) {
                text.append(h.waited(k, other)).append(' ');
            }
        }
        return text.toString();
    }
}
