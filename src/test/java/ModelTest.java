import java.util.Random;

/** Random runs of calls, from fixed seeds, against a model on true numbers. */
public final class ModelTest {
    private static final int RUNS = 3000;
    private static final int CALLS = 250;
    private static final int METHODS = 39;

    private static Random random;

    /** An index below count, and now and then one that is none. */
    private static int index(int count) {
        return random.nextInt(40) == 0 ? (random.nextBoolean() ? -1 : count) : random.nextInt(count);
    }

    private static int choice(int last) {
        return random.nextInt(40) == 0 ? (random.nextBoolean() ? -1 : last + 1) : random.nextInt(last + 1);
    }

    /** Small ones, ones close to a bound, and any ones. */
    private static int any() {
        switch (random.nextInt(6)) {
            case 0:
                return random.nextInt(41) - 20;
            case 1:
                return Integer.MIN_VALUE + random.nextInt(3);
            case 2:
                return Integer.MAX_VALUE - random.nextInt(3);
            case 3:
                return (1 << random.nextInt(32)) + random.nextInt(3) - 1;
            case 4:
                return random.nextInt(1000) - 500;
            default:
                return random.nextInt();
        }
    }

    private static int positive() {
        int value = any();
        return random.nextInt(30) == 0 ? value : value == Integer.MIN_VALUE ? 1 : Math.max(1, Math.abs(value));
    }

    /** Puts one call to both and tells what differs. */
    private static void step(Modrings x, Model m, String where) {
        int method = random.nextInt(METHODS);
        boolean is = random.nextBoolean();
        boolean or = random.nextBoolean();
        int a = index(4);
        int b = index(4);
        int c = index(4);
        int ring = index(3);
        int other = index(3);
        int what = choice(2);
        int p = any();
        int q = any();
        int[] by = {positive(), positive(), positive()};
        Object got = answer(() -> ask(x, method, is, or, new int[] {a, b, c, ring, other, what, p, q}, by));
        Object due = answer(() -> tell(m, method, is, or, new int[] {a, b, c, ring, other, what, p, q}, by));
        Check.same(where + " method " + method, got, due);
        Check.same(where + " method " + method + " digest", x.digest(), m.digest());
    }

    private static Object answer(Check.Call call) {
        try {
            return call.answer();
        } catch (IndexOutOfBoundsException | IllegalArgumentException e) {
            return e.getClass();
        }
    }

    /** A what of 0 to 2 made one of ofNumber(), with 3 and 4 too. */
    private static int wideOr(int what, int p) {
        return what == 2 && (p & 3) == 0 ? 4 : what == 1 && (p & 1) == 0 ? 3 : what;
    }

    private static int choiceOfHouse(int what, int p) {
        return what == 2 && (p & 1) == 0 ? 3 : what == 3 ? 4 : what;
    }

    private static Object ask(Modrings x, int method, boolean is, boolean or, int[] n, int[] by) {
        int a = n[0], b = n[1], c = n[2], ring = n[3], other = n[4], what = n[5], p = n[6], q = n[7];
        switch (method) {
            case 0: return x.put(is, a, p, q);
            case 1: return x.copy(is, a, b);
            case 2: return x.widen(a, b);
            case 3: return x.narrow(a, b);
            case 4: return x.exact(is, a, b, what);
            case 5: return x.fits(is, a, b, what);
            case 6: return x.alone(is, a, what);
            case 7: return x.timesInt(a, b);
            case 8: return x.full(a, b, c);
            case 9: return x.high(a, b, c);
            case 10: return x.round(is, a, b, what);
            case 11: return x.abs(is, a);
            case 12: return x.extreme(is, a, b, or);
            case 13: return x.floor(is, a, b, or);
            case 14: return x.floorInt(a, b, or);
            case 15: return x.towards(is, a, b, or);
            case 16: return x.average(is, a, b, or);
            case 17: return x.chain(a, by[0], by[1], by[2]);
            case 18: return x.atOnce(a, by[0], by[1], by[2]);
            case 19: return x.distance(is, a, b);
            case 20: return x.compare(is, a, b);
            case 21: return x.text(is, a);
            case 22: return x.ofNumber(is, a, wideOr(what, p));
            case 23: return x.rest(is, a, p);
            case 24: return x.quotient(is, a, p);
            case 25: return x.modulus(ring, p);
            case 26: return x.bring(ring, a, is, b);
            case 27: return x.lift(ring, a, is, b);
            case 28: return x.plus(ring, a, b, or);
            case 29: return x.times(ring, a, b);
            case 30: return x.power(ring, a, (p & 7) == 0 ? q : by[0]);
            case 31: return x.inverse(ring, a);
            case 32: return x.isUnit(ring, a);
            case 33: return x.ringText(ring);
            case 34: return x.areAlike(ring, is, a, b);
            case 35: return x.together(a, ring, b, other, c);
            case 36: return x.common(ring, other, or);
            case 37: return x.residue(ring, a);
            default: return or ? x.knock() : x.house(choiceOfHouse(what, p));
        }
    }

    private static Object tell(Model m, int method, boolean is, boolean or, int[] n, int[] by) {
        int a = n[0], b = n[1], c = n[2], ring = n[3], other = n[4], what = n[5], p = n[6], q = n[7];
        switch (method) {
            case 0: return m.put(is, a, p, q);
            case 1: return m.copy(is, a, b);
            case 2: return m.widen(a, b);
            case 3: return m.narrow(a, b);
            case 4: return m.exact(is, a, b, what);
            case 5: return m.fits(is, a, b, what);
            case 6: return m.alone(is, a, what);
            case 7: return m.timesInt(a, b);
            case 8: return m.full(a, b, c);
            case 9: return m.high(a, b, c);
            case 10: return m.round(is, a, b, what);
            case 11: return m.abs(is, a);
            case 12: return m.extreme(is, a, b, or);
            case 13: return m.floor(is, a, b, or);
            case 14: return m.floorInt(a, b, or);
            case 15: return m.towards(is, a, b, or);
            case 16: return m.average(is, a, b, or);
            case 17: return m.chain(a, by[0], by[1], by[2]);
            case 18: return m.atOnce(a, by[0], by[1], by[2]);
            case 19: return m.distance(is, a, b);
            case 20: return m.compare(is, a, b);
            case 21: return m.text(is, a);
            case 22: return m.ofNumber(is, a, wideOr(what, p));
            case 23: return m.rest(is, a, p);
            case 24: return m.quotient(is, a, p);
            case 25: return m.modulus(ring, p);
            case 26: return m.bring(ring, a, is, b);
            case 27: return m.lift(ring, a, is, b);
            case 28: return m.plus(ring, a, b, or);
            case 29: return m.times(ring, a, b);
            case 30: return m.power(ring, a, (p & 7) == 0 ? q : by[0]);
            case 31: return m.inverse(ring, a);
            case 32: return m.isUnit(ring, a);
            case 33: return m.ringText(ring);
            case 34: return m.areAlike(ring, is, a, b);
            case 35: return m.together(a, ring, b, other, c);
            case 36: return m.common(ring, other, or);
            case 37: return m.residue(ring, a);
            default: return or ? m.knock() : m.house(choiceOfHouse(what, p));
        }
    }

    public static void main(String[] args) {
        for (int run = 0; run < RUNS; run++) {
            random = new Random(run);
            Modrings x = new Modrings();
            Model m = new Model();
            // A first state of any numbers: a run of calls alone often falls back to small ones.
            for (int k = 0; k < 4; k++) {
                for (boolean isLong : new boolean[] {false, true}) {
                    int high = any();
                    int low = any();
                    x.put(isLong, k, high, low);
                    m.put(isLong, k, high, low);
                }
            }
            // Each step is two calls of the object, and the document ends at 512.
            for (int call = 0; call < CALLS; call++) {
                step(x, m, "run " + run + " call " + call);
            }
        }
        Check.finish("ModelTest");
    }
}
