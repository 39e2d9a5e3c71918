import java.math.BigInteger;
import java.util.Random;

/** Random runs of calls, from fixed seeds, against a model on true numbers. */
public final class ModelTest {
    private static final int RUNS = 3000;
    private static final int CALLS = 250;
    private static final int METHODS = 38;

    /** What the document says, on BigInteger, in its plainest words. */
    private static final class Model {
        final BigInteger[][] numbers = new BigInteger[2][4];
        final BigInteger[] moduli = {big(7), big(10), big(-12)};
        final BigInteger[][] residues = new BigInteger[3][4];
        int refusals = 0;
        int knocks = 0;

        Model() {
            for (int k = 0; k < 4; k++) {
                numbers[0][k] = BigInteger.ZERO;
                numbers[1][k] = BigInteger.ZERO;
            }
            for (BigInteger[] row : residues) {
                java.util.Arrays.fill(row, BigInteger.ZERO);
            }
        }

        static BigInteger big(long value) {
            return BigInteger.valueOf(value);
        }

        static int kind(boolean isLong) {
            return isLong ? 1 : 0;
        }

        static int size(boolean isLong) {
            return isLong ? 64 : 32;
        }

        static void index(int index, int count) {
            if (index < 0 || index >= count) {
                throw new IndexOutOfBoundsException();
            }
        }

        static void argument(boolean isRight) {
            if (!isRight) {
                throw new IllegalArgumentException();
            }
        }

        BigInteger number(boolean isLong, int k) {
            index(k, 4);
            return numbers[kind(isLong)][k];
        }

        BigInteger slot(int ring, int slot) {
            index(ring, 3);
            index(slot, 4);
            return residues[ring][slot];
        }

        static BigInteger bound(boolean isLong) {
            return BigInteger.ONE.shiftLeft(size(isLong) - 1);
        }

        static boolean isWithin(boolean isLong, BigInteger value) {
            return value.compareTo(bound(isLong)) < 0 && value.compareTo(bound(isLong).negate()) >= 0;
        }

        static BigInteger round(boolean isLong, BigInteger value) {
            return value.add(bound(isLong)).mod(BigInteger.ONE.shiftLeft(size(isLong))).subtract(bound(isLong));
        }

        static BigInteger floor(BigInteger a, BigInteger b) {
            BigInteger[] both = a.divideAndRemainder(b);
            boolean isBelow = both[1].signum() != 0 && both[1].signum() != b.signum();
            return isBelow ? both[0].subtract(BigInteger.ONE) : both[0];
        }

        static BigInteger rest(BigInteger a, BigInteger b) {
            return a.subtract(floor(a, b).multiply(b));
        }

        static BigInteger joined(BigInteger a, BigInteger b, int what) {
            return what == 0 ? a.add(b) : what == 1 ? a.subtract(b) : a.multiply(b);
        }

        int set(boolean isLong, int k, BigInteger value) {
            index(k, 4);
            if (!isWithin(isLong, value)) {
                throw new IllegalStateException("the model left its bounds");
            }
            numbers[kind(isLong)][k] = value;
            return value.signum();
        }

        int setSlot(int ring, int slot, BigInteger value) {
            residues[ring][slot] = rest(value, moduli[ring]);
            return residues[ring][slot].intValueExact();
        }

        int refuse() {
            refusals++;
            return -9;
        }

        int setExact(boolean isLong, int k, BigInteger value) {
            return isWithin(isLong, value) ? set(isLong, k, value) : refuse();
        }

        int divide(boolean isLong, int k, BigInteger by, boolean isRest, boolean isFloor) {
            BigInteger value = number(isLong, k);
            if (by.signum() == 0) {
                return refuse();
            }
            BigInteger quotient = isFloor ? floor(value, by) : value.divide(by);
            BigInteger left = value.subtract(quotient.multiply(by));
            return set(isLong, k, round(isLong, isRest ? left : quotient));
        }

        int average(boolean isLong, int k, int from, boolean isUp) {
            BigInteger sum = number(isLong, k).add(number(isLong, from));
            BigInteger down = floor(sum, big(2));
            return set(isLong, k, isUp && sum.testBit(0) ? down.add(BigInteger.ONE) : down);
        }

        int divideAll(int k, int a, int b, int c, boolean isAtOnce) {
            BigInteger value = number(true, k);
            argument(a >= 1 && b >= 1 && c >= 1);
            BigInteger product = big(a).multiply(big(b)).multiply(big(c));
            if (isAtOnce) {
                return isWithin(true, product) ? set(true, k, floor(value, product)) : refuse();
            }
            return set(true, k, floor(floor(floor(value, big(a)), big(b)), big(c)));
        }

        int ofNumber(boolean isLong, int k, int what) {
            BigInteger value = number(isLong, k);
            argument(what >= 0 && what <= 4);
            switch (what) {
                case 0:
                    return value.signum();
                case 1:
                    return round(false, value).intValueExact();
                case 2:
                    return floor(value, BigInteger.ONE.shiftLeft(32)).intValueExact();
                case 3:
                    return value.equals(bound(isLong).negate()) ? -1
                            : value.equals(bound(isLong).subtract(BigInteger.ONE)) ? 1 : 0;
                default:
                    return value.toString().length();
            }
        }

        int modulus(int ring, int modulus) {
            index(ring, 3);
            argument(modulus != 0);
            int before = moduli[ring].intValueExact();
            moduli[ring] = big(modulus);
            for (int slot = 0; slot < 4; slot++) {
                setSlot(ring, slot, residues[ring][slot]);
            }
            return before;
        }

        boolean isUnit(int ring, int slot) {
            return slot(ring, slot).gcd(moduli[ring]).equals(BigInteger.ONE);
        }

        int inverse(int ring, int slot) {
            if (!isUnit(ring, slot)) {
                return refuse();
            }
            setSlot(ring, slot, residues[ring][slot].modInverse(moduli[ring].abs()));
            return 1;
        }

        int power(int ring, int slot, int exponent) {
            BigInteger base = slot(ring, slot);
            argument(exponent >= 0);
            return setSlot(ring, slot, base.modPow(big(exponent), moduli[ring].abs()));
        }

        int together(int k, int ring, int slot, int other, int from) {
            index(k, 4);
            BigInteger one = slot(ring, slot);
            BigInteger two = slot(other, from);
            BigInteger m = moduli[ring].abs();
            BigInteger n = moduli[other].abs();
            BigInteger g = m.gcd(n);
            if (two.subtract(one).mod(g).signum() != 0) {
                return refuse();
            }
            BigInteger least = m.divide(g).multiply(n);
            // m*i + n*j = g, so one + m*i*(two - one)/g has both.
            BigInteger turns = n.divide(g);
            BigInteger i = turns.equals(BigInteger.ONE) ? BigInteger.ZERO : m.divide(g).modInverse(turns);
            return set(true, k, one.add(m.multiply(i).multiply(two.subtract(one).divide(g))).mod(least));
        }

        String common(int ring, int other, boolean isLeast) {
            index(ring, 3);
            index(other, 3);
            BigInteger g = moduli[ring].gcd(moduli[other]);
            return (isLeast ? moduli[ring].multiply(moduli[other]).abs().divide(g) : g).toString();
        }

        String ringText(int ring) {
            index(ring, 3);
            BigInteger[] row = residues[ring];
            return moduli[ring] + ": " + row[0] + " " + row[1] + " " + row[2] + " " + row[3];
        }

        int house(int what) {
            argument(what >= 0 && what <= 3);
            if (what < 2) {
                return what == 0 ? refusals : knocks;
            }
            int count = 0;
            for (int k = 0; k < 4; k++) {
                if (what == 2) {
                    count += numbers[0][k].signum() == 0 ? 1 : 0;
                    count += numbers[1][k].signum() == 0 ? 1 : 0;
                } else {
                    for (int ring = 0; ring < 3; ring++) {
                        count += isUnit(ring, k) ? 1 : 0;
                    }
                }
            }
            return count;
        }

        long digest() {
            long d = 7837;
            for (int what = 0; what < 4; what++) {
                d = d * 31 + house(what);
            }
            for (int kind = 0; kind < 2; kind++) {
                for (int k = 0; k < 4; k++) {
                    for (int what = 0; what < 5; what++) {
                        d = d * 31 + ofNumber(kind == 1, k, what);
                    }
                }
            }
            for (int ring = 0; ring < 3; ring++) {
                d = d * 31 + moduli[ring].intValueExact();
                for (BigInteger residue : residues[ring]) {
                    d = d * 31 + residue.intValueExact();
                }
            }
            return d * 31 + 1;
        }
    }

    private static Random random;

    /** An index below count, and now and then one that is none. */
    private static int index(int count) {
        return random.nextInt(40) == 0 ? (random.nextBoolean() ? -1 : count) : random.nextInt(count);
    }

    private static int choice(int last) {
        return random.nextInt(40) == 0 ? (random.nextBoolean() ? -1 : last + 1) : random.nextInt(last + 1);
    }

    /** Small ones, ones close to a bound, and any ones. */
    private static int any() {
        switch (random.nextInt(6)) {
            case 0:
                return random.nextInt(41) - 20;
            case 1:
                return Integer.MIN_VALUE + random.nextInt(3);
            case 2:
                return Integer.MAX_VALUE - random.nextInt(3);
            case 3:
                return (1 << random.nextInt(32)) + random.nextInt(3) - 1;
            case 4:
                return random.nextInt(1000) - 500;
            default:
                return random.nextInt();
        }
    }

    private static int positive() {
        int value = any();
        return random.nextInt(30) == 0 ? value : value == Integer.MIN_VALUE ? 1 : Math.max(1, Math.abs(value));
    }

    /** Puts one call to both and tells what differs. */
    private static void step(Modrings x, Model m, String where) {
        int method = random.nextInt(METHODS);
        boolean is = random.nextBoolean();
        boolean or = random.nextBoolean();
        int a = index(4);
        int b = index(4);
        int c = index(4);
        int ring = index(3);
        int other = index(3);
        int what = choice(2);
        int p = any();
        int q = any();
        int[] by = {positive(), positive(), positive()};
        Object got = answer(() -> ask(x, method, is, or, new int[] {a, b, c, ring, other, what, p, q}, by));
        Object due = answer(() -> tell(m, method, is, or, new int[] {a, b, c, ring, other, what, p, q}, by));
        Check.same(where + " method " + method, got, due);
        Check.same(where + " method " + method + " digest", x.digest(), m.digest());
    }

    private static Object answer(Check.Call call) {
        try {
            return call.answer();
        } catch (IndexOutOfBoundsException | IllegalArgumentException e) {
            return e.getClass();
        }
    }

    private static int wideOr(int what, int p) {
        return what == 2 && (p & 3) == 0 ? 4 : what;
    }

    private static Object ask(Modrings x, int method, boolean is, boolean or, int[] n, int[] by) {
        int a = n[0], b = n[1], c = n[2], ring = n[3], other = n[4], what = n[5], p = n[6], q = n[7];
        switch (method) {
            case 0: return x.put(is, a, p, q);
            case 1: return x.copy(is, a, b);
            case 2: return x.widen(a, b);
            case 3: return x.narrow(a, b);
            case 4: return x.exact(is, a, b, what);
            case 5: return x.fits(is, a, b, what);
            case 6: return x.alone(is, a, what);
            case 7: return x.timesInt(a, b);
            case 8: return x.full(a, b, c);
            case 9: return x.high(a, b, c);
            case 10: return x.round(is, a, b, what);
            case 11: return x.abs(is, a);
            case 12: return x.extreme(is, a, b, or);
            case 13: return x.floor(is, a, b, or);
            case 14: return x.floorInt(a, b, or);
            case 15: return x.towards(is, a, b, or);
            case 16: return x.average(is, a, b, or);
            case 17: return x.chain(a, by[0], by[1], by[2]);
            case 18: return x.atOnce(a, by[0], by[1], by[2]);
            case 19: return x.distance(is, a, b);
            case 20: return x.compare(is, a, b);
            case 21: return x.text(is, a);
            case 22: return x.ofNumber(is, a, wideOr(what, p));
            case 23: return x.rest(is, a, p);
            case 24: return x.quotient(is, a, p);
            case 25: return x.modulus(ring, p);
            case 26: return x.bring(ring, a, is, b);
            case 27: return x.lift(ring, a, is, b);
            case 28: return x.plus(ring, a, b, or);
            case 29: return x.times(ring, a, b);
            case 30: return x.power(ring, a, (p & 7) == 0 ? q : by[0]);
            case 31: return x.inverse(ring, a);
            case 32: return x.isUnit(ring, a);
            case 33: return x.ringText(ring);
            case 34: return x.areAlike(ring, is, a, b);
            case 35: return x.together(a, ring, b, other, c);
            case 36: return x.common(ring, other, or);
            default: return or ? x.knock() : x.house(what);
        }
    }

    private static Object tell(Model m, int method, boolean is, boolean or, int[] n, int[] by) {
        int a = n[0], b = n[1], c = n[2], ring = n[3], other = n[4], what = n[5], p = n[6], q = n[7];
        switch (method) {
            case 0: return m.set(is, a, is ? Model.big(p).shiftLeft(32).add(Model.big(Integer.toUnsignedLong(q))) : Model.big(q));
            case 1: return m.set(is, a, m.number(is, b));
            case 2: return m.set(true, a, m.number(false, b));
            case 3: Model.index(a, 4); return m.setExact(false, a, m.number(true, b));
            case 4: return m.setExact(is, a, pair(m, is, a, b, what));
            case 5: return Model.isWithin(is, pair(m, is, a, b, what));
            case 6: return alone(m, is, a, what);
            case 7: return m.setExact(true, a, m.number(true, a).multiply(m.number(false, b)));
            case 8: return m.set(true, a, m.number(false, b).multiply(m.number(false, c)));
            case 9: return m.set(true, a, Model.floor(m.number(true, b).multiply(m.number(true, c)), BigInteger.ONE.shiftLeft(64)));
            case 10: return m.set(is, a, Model.round(is, pair(m, is, a, b, what)));
            case 11: return m.set(is, a, Model.round(is, m.number(is, a).abs()));
            case 12: return extreme(m, is, a, b, or);
            case 13: return m.divide(is, a, m.number(is, b), or, true);
            case 14: return m.divide(true, a, m.number(false, b), or, true);
            case 15: return m.divide(is, a, m.number(is, b), or, false);
            case 16: return m.average(is, a, b, or);
            case 17: return m.divideAll(a, by[0], by[1], by[2], false);
            case 18: return m.divideAll(a, by[0], by[1], by[2], true);
            case 19: return m.number(is, a).subtract(m.number(is, b)).abs().toString();
            case 20: return m.number(is, a).compareTo(m.number(is, b));
            case 21: return m.number(is, a).toString();
            case 22: return m.ofNumber(is, a, wideOr(what, p));
            case 23: m.number(is, a); Model.argument(p != 0); return Model.rest(m.number(is, a), Model.big(p)).intValueExact();
            case 24: m.number(is, a); Model.argument(p != 0); return Model.round(is, Model.floor(m.number(is, a), Model.big(p))).toString();
            case 25: return m.modulus(ring, p);
            case 26: m.slot(ring, a); return m.setSlot(ring, a, m.number(is, b));
            case 27: return m.set(is, b, m.slot(ring, a));
            case 28: return m.setSlot(ring, a, Model.joined(m.slot(ring, a), m.slot(ring, b), or ? 1 : 0));
            case 29: return m.setSlot(ring, a, m.slot(ring, a).multiply(m.slot(ring, b)));
            case 30: return m.power(ring, a, (p & 7) == 0 ? q : by[0]);
            case 31: return m.inverse(ring, a);
            case 32: return m.isUnit(ring, a);
            case 33: return m.ringText(ring);
            case 34: Model.index(ring, 3); return Model.rest(m.number(is, a), m.moduli[ring]).equals(Model.rest(m.number(is, b), m.moduli[ring]));
            case 35: return m.together(a, ring, b, other, c);
            case 36: return m.common(ring, other, or);
            default: return or ? ++m.knocks : m.house(what);
        }
    }

    private static BigInteger pair(Model m, boolean isLong, int a, int b, int what) {
        BigInteger one = m.number(isLong, a);
        BigInteger other = m.number(isLong, b);
        Model.argument(what >= 0 && what <= 2);
        return Model.joined(one, other, what);
    }

    private static int alone(Model m, boolean isLong, int k, int what) {
        BigInteger value = m.number(isLong, k);
        Model.argument(what >= 0 && what <= 2);
        return m.setExact(isLong, k, what == 2 ? value.negate() : value.add(Model.big(what == 0 ? 1 : -1)));
    }

    private static int extreme(Model m, boolean isLong, int k, int from, boolean isGreater) {
        BigInteger before = m.number(isLong, k);
        BigInteger other = m.number(isLong, from);
        m.set(isLong, k, isGreater ? before.max(other) : before.min(other));
        return m.number(isLong, k).equals(before) ? 0 : 1;
    }

    public static void main(String[] args) {
        for (int run = 0; run < RUNS; run++) {
            random = new Random(run);
            Modrings x = new Modrings();
            Model m = new Model();
            // A first state of any numbers: a run of calls alone often falls back to small ones.
            for (int k = 0; k < 4; k++) {
                for (boolean isLong : new boolean[] {false, true}) {
                    int high = any();
                    int low = any();
                    x.put(isLong, k, high, low);
                    tell(m, 0, isLong, false, new int[] {k, 0, 0, 0, 0, 0, high, low}, null);
                }
            }
            // Each step is two calls of the object, and the document ends at 512.
            for (int call = 0; call < CALLS; call++) {
                step(x, m, "run " + run + " call " + call);
            }
        }
        Check.finish("ModelTest");
    }
}
