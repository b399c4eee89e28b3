import java.util.Random;

/** All promises: any calls end with an answer or an exception that the document names, and one that throws changes nothing. */
public final class AnyCallsTest {
    private static Random random;

    public static void main(String[] args) {
        for (int run = 0; run < 260; run++) {
            random = new Random(1000 + run);
            PictureCodingHouse house = new PictureCodingHouse();
            for (int i = 0; i < 512; i++) {
                boolean isTold = i % 16 == 0;
                String before = isTold ? Checks.snapshot(house) : "";
                int which = random.nextInt(70);
                boolean changes = true;
                try {
                    call(house, which);
                } catch (RuntimeException e) {
                    Class<?> c = e.getClass();
                    changes = false;
                    Checks.holds("call " + which + " throws " + e, c == IndexOutOfBoundsException.class
                            || c == IllegalStateException.class || c == IllegalArgumentException.class
                            || c == UnsupportedOperationException.class);
                }
                if (isTold && !changes) {
                    Checks.holds("call " + which + " throws and changes nothing", before.equals(Checks.snapshot(house)));
                }
            }
        }
        Checks.end();
    }

    /** A number that is mostly one that is told. */
    private static int some(int count) {
        int sort = random.nextInt(40);
        if (sort == 0) {
            return new int[] {Integer.MIN_VALUE, Integer.MAX_VALUE, -2, 1000000}[random.nextInt(4)];
        }
        return sort == 1 ? -1 : sort == 2 ? count : sort == 3 ? count + 1 : random.nextInt(count);
    }

    private static void call(PictureCodingHouse h, int which) {
        int k = some(8);
        int s = some(4);
        int f = some(12);
        boolean b = random.nextBoolean();
        switch (which) {
            case 0: case 1: case 2: h.picture(k, 1 + some(12), 1 + some(12)); break;
            case 3: case 4: case 5: case 6: h.put(k, some(8), some(8), 1 + some(9), some(256)); break;
            case 7: case 8: h.shape(k, some(8), some(8), 1 + some(5), b); break;
            case 9: h.at(k, some(12), some(12)); h.isInside(k, some(12), some(12)); break;
            case 10: h.copy(k, some(8)); break;
            case 11: case 12: h.sheet(s, 1 + some(24), 1 + some(24)); break;
            case 13: case 14: case 15: h.ink(s, some(24), some(24), 1 + some(9), random.nextInt(4) > 0); break;
            case 16: h.isDark(s, some(24), some(24)); break;
            case 17: h.apart(s, some(4)); break;
            case 18: h.byteAt(f, some(100)); break;
            case 19: h.feed(f, some(256)); break;
            case 20: case 21: h.alter(f, some(1 + Math.max(0, sizeOf(h, f))), some(256)); break;
            case 22: h.cut(f, some(200)); break;
            case 23: h.join(f, some(50), some(200), some(12)); break;
            case 24: case 25: h.lines(k, 1 + some(3), some(3), some(4), some(13), f); break;
            case 26: case 27: h.unline(f, k); break;
            case 28: h.waves(k, b ? 60000 : some(1000), f); break;
            case 29: case 30: h.unwave(f, b ? 60000 : some(1000), k); break;
            case 31: h.wave(k, some(12), some(12)); break;
            case 32: h.chunks(k, f); break;
            case 33: case 34: h.unchunk(f, k); break;
            case 35: h.pack(f, some(10), some(12)); break;
            case 36: case 37: h.unpack(f, some(12)); break;
            case 38: case 39: h.halftone(k, 1 + some(2), s); break;
            case 40: h.shade(s, 1 + some(3), k); break;
            case 41: h.greys(k, 1 + some(2), f); break;
            case 42: case 43: h.ungrey(f, k); break;
            case 44: h.parts(s, some(2)); break;
            case 45: h.text(s, some(2), some(9), f); break;
            case 46: case 47: h.untext(f, s); break;
            case 48: h.book(s, 1 + some(4), some(3), some(25), f); break;
            case 49: case 50: h.unbook(f, some(3), s); break;
            case 51: h.fault(some(2)); break;
            case 52: case 53: h.place(k, some(40), some(40)); break;
            case 54: h.turn(some(8)); break;
            case 55: h.crop(some(20), some(20), 1 + some(40), 1 + some(40)); break;
            case 56: h.near(some(4)); break;
            case 57: h.swap(); break;
            case 58: h.attach(some(4)); break;
            case 59: h.tile(some(4), some(8)); break;
            case 60: h.shown(some(40), some(40)); break;
            case 61: h.render(some(40), some(40), 1 + some(12), 1 + some(12), k); break;
            case 62: h.album(f); break;
            case 63: h.need(k, some(12), some(8), 1 + some(12)); break;
            case 64: h.free(k); break;
            case 65: h.failing(some(16), k, some(20), 1 + some(9)); break;
            case 66: h.stop(b ? -1 : k); break;
            case 67: h.batch(1 + some(16), random.nextLong(), some(4), b ? some(3) : some(60001)); break;
            case 68: h.value(k); h.finished(some(8)); h.waited(k, some(8)); break;
            default:
                h.size(some(3), some(12), some(3));
                h.told(some(17));
                if (random.nextInt(30) == 0) {
                    h.clear();
                }
                break;
        }
    }

    private static int sizeOf(PictureCodingHouse h, int f) {
        return f >= 0 && f < 12 ? h.size(2, f, 0) : 0;
    }
}
