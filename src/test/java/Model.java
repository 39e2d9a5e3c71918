import java.math.BigInteger;
import java.util.Arrays;

/** What the document says, on true numbers (BigInteger), in its plainest words; by the face's names. */
final class Model {
    private static final BigInteger ONE = BigInteger.ONE;

    private final BigInteger[][] numbers = new BigInteger[2][4];
    private final BigInteger[] moduli = {big(7), big(10), big(-12)};
    private final BigInteger[][] residues = new BigInteger[3][4];
    private int refusals = 0;
    private int knocks = 0;

    Model() {
        for (BigInteger[] row : numbers) {
            Arrays.fill(row, BigInteger.ZERO);
        }
        for (BigInteger[] row : residues) {
            Arrays.fill(row, BigInteger.ZERO);
        }
    }

    // ---- numbers

    int put(boolean isLong, int k, int high, int low) {
        BigInteger joined = big(high).shiftLeft(32).add(big(Integer.toUnsignedLong(low)));
        return set(isLong, k, isLong ? joined : big(low));
    }

    int copy(boolean isLong, int k, int from) {
        return set(isLong, k, number(isLong, from));
    }

    int widen(int k, int from) {
        return set(true, k, number(false, from));
    }

    int narrow(int k, int from) {
        number(false, k);
        return setExact(false, k, number(true, from));
    }

    int exact(boolean isLong, int k, int from, int what) {
        return setExact(isLong, k, joined(isLong, k, from, what));
    }

    boolean fits(boolean isLong, int a, int b, int what) {
        return isWithin(isLong, joined(isLong, a, b, what));
    }

    int alone(boolean isLong, int k, int what) {
        BigInteger value = number(isLong, k);
        argument(what >= 0 && what <= 2);
        return setExact(isLong, k, what == 2 ? value.negate() : value.add(big(what == 0 ? 1 : -1)));
    }

    int timesInt(int k, int from) {
        return setExact(true, k, number(true, k).multiply(number(false, from)));
    }

    int full(int k, int a, int b) {
        return set(true, k, number(false, a).multiply(number(false, b)));
    }

    int high(int k, int a, int b) {
        return set(true, k, floor(number(true, a).multiply(number(true, b)), ONE.shiftLeft(64)));
    }

    int round(boolean isLong, int k, int from, int what) {
        return set(isLong, k, round(isLong, joined(isLong, k, from, what)));
    }

    int abs(boolean isLong, int k) {
        return set(isLong, k, round(isLong, number(isLong, k).abs()));
    }

    int extreme(boolean isLong, int k, int from, boolean isGreater) {
        BigInteger before = number(isLong, k);
        BigInteger other = number(isLong, from);
        set(isLong, k, isGreater ? before.max(other) : before.min(other));
        return number(isLong, k).equals(before) ? 0 : 1;
    }

    int floor(boolean isLong, int k, int from, boolean isRest) {
        return divide(isLong, k, number(isLong, from), isRest, true);
    }

    int floorInt(int k, int from, boolean isRest) {
        return divide(true, k, number(false, from), isRest, true);
    }

    int towards(boolean isLong, int k, int from, boolean isRest) {
        return divide(isLong, k, number(isLong, from), isRest, false);
    }

    int average(boolean isLong, int k, int from, boolean isUp) {
        BigInteger sum = number(isLong, k).add(number(isLong, from));
        BigInteger down = floor(sum, big(2));
        return set(isLong, k, isUp && sum.testBit(0) ? down.add(ONE) : down);
    }

    int chain(int k, int a, int b, int c) {
        BigInteger value = number(true, k);
        argument(a >= 1 && b >= 1 && c >= 1);
        return set(true, k, floor(floor(floor(value, big(a)), big(b)), big(c)));
    }

    int atOnce(int k, int a, int b, int c) {
        BigInteger value = number(true, k);
        argument(a >= 1 && b >= 1 && c >= 1);
        BigInteger product = big(a).multiply(big(b)).multiply(big(c));
        return isWithin(true, product) ? set(true, k, floor(value, product)) : refuse();
    }

    String distance(boolean isLong, int a, int b) {
        return number(isLong, a).subtract(number(isLong, b)).abs().toString();
    }

    int compare(boolean isLong, int a, int b) {
        return number(isLong, a).compareTo(number(isLong, b));
    }

    String text(boolean isLong, int k) {
        return number(isLong, k).toString();
    }

    int ofNumber(boolean isLong, int k, int what) {
        BigInteger value = number(isLong, k);
        argument(what >= 0 && what <= 4);
        switch (what) {
            case 0:
                return value.signum();
            case 1:
                return round(false, value).intValueExact();
            case 2:
                return floor(value, ONE.shiftLeft(32)).intValueExact();
            case 3:
                return value.equals(bound(isLong).negate()) ? -1 : value.equals(bound(isLong).subtract(ONE)) ? 1 : 0;
            default:
                return value.toString().length();
        }
    }

    int rest(boolean isLong, int k, int by) {
        BigInteger value = number(isLong, k);
        argument(by != 0);
        return restOf(value, big(by)).intValueExact();
    }

    String quotient(boolean isLong, int k, int by) {
        BigInteger value = number(isLong, k);
        argument(by != 0);
        return round(isLong, floor(value, big(by))).toString();
    }

    // ---- rings

    int modulus(int ring, int modulus) {
        int before = modulusOf(ring).intValueExact();
        argument(modulus != 0);
        moduli[ring] = big(modulus);
        for (int slot = 0; slot < 4; slot++) {
            setSlot(ring, slot, residues[ring][slot]);
        }
        return before;
    }

    int bring(int ring, int slot, boolean isLong, int k) {
        residueOf(ring, slot);
        return setSlot(ring, slot, number(isLong, k));
    }

    int lift(int ring, int slot, boolean isLong, int k) {
        return set(isLong, k, residueOf(ring, slot));
    }

    int plus(int ring, int slot, int other, boolean isLess) {
        BigInteger a = residueOf(ring, slot);
        BigInteger b = residueOf(ring, other);
        return setSlot(ring, slot, isLess ? a.subtract(b) : a.add(b));
    }

    int times(int ring, int slot, int other) {
        return setSlot(ring, slot, residueOf(ring, slot).multiply(residueOf(ring, other)));
    }

    int power(int ring, int slot, int exponent) {
        BigInteger base = residueOf(ring, slot);
        argument(exponent >= 0);
        return setSlot(ring, slot, base.modPow(big(exponent), moduli[ring].abs()));
    }

    int inverse(int ring, int slot) {
        if (!isUnit(ring, slot)) {
            return refuse();
        }
        setSlot(ring, slot, residues[ring][slot].modInverse(moduli[ring].abs()));
        return 1;
    }

    boolean isUnit(int ring, int slot) {
        return residueOf(ring, slot).gcd(moduli[ring]).equals(ONE);
    }

    int residue(int ring, int slot) {
        return residueOf(ring, slot).intValueExact();
    }

    String ringText(int ring) {
        BigInteger modulus = modulusOf(ring);
        BigInteger[] row = residues[ring];
        return modulus + ": " + row[0] + " " + row[1] + " " + row[2] + " " + row[3];
    }

    boolean areAlike(int ring, boolean isLong, int a, int b) {
        BigInteger by = modulusOf(ring);
        return restOf(number(isLong, a), by).equals(restOf(number(isLong, b), by));
    }

    int together(int k, int ring, int slot, int other, int from) {
        number(true, k);
        BigInteger one = residueOf(ring, slot);
        BigInteger two = residueOf(other, from);
        BigInteger m = moduli[ring].abs();
        BigInteger n = moduli[other].abs();
        BigInteger g = m.gcd(n);
        if (two.subtract(one).mod(g).signum() != 0) {
            return refuse();
        }
        // m*i + n*j = g, so one + m*i*(two - one)/g has both.
        BigInteger turns = n.divide(g);
        BigInteger i = turns.equals(ONE) ? BigInteger.ZERO : m.divide(g).modInverse(turns);
        BigInteger least = m.divide(g).multiply(n);
        return set(true, k, one.add(m.multiply(i).multiply(two.subtract(one).divide(g))).mod(least));
    }

    String common(int ring, int other, boolean isLeast) {
        BigInteger m = modulusOf(ring);
        BigInteger n = modulusOf(other);
        BigInteger g = m.gcd(n);
        return (isLeast ? m.multiply(n).abs().divide(g) : g).toString();
    }

    // ---- the whole

    int house(int what) {
        argument(what >= 0 && what <= 3);
        if (what < 2) {
            return what == 0 ? refusals : knocks;
        }
        int count = 0;
        for (int k = 0; k < 4; k++) {
            if (what == 2) {
                count += numbers[0][k].signum() == 0 ? 1 : 0;
                count += numbers[1][k].signum() == 0 ? 1 : 0;
                continue;
            }
            for (int ring = 0; ring < 3; ring++) {
                count += isUnit(ring, k) ? 1 : 0;
            }
        }
        return count;
    }

    int knock() {
        knocks++;
        return knocks;
    }

    /** With isSound() true, as each law that it names holds for all true numbers. */
    long digest() {
        long d = 7837;
        for (int what = 0; what < 4; what++) {
            d = d * 31 + house(what);
        }
        for (boolean isLong : Made.KINDS) {
            for (int k = 0; k < 4; k++) {
                for (int what = 0; what < 5; what++) {
                    d = d * 31 + ofNumber(isLong, k, what);
                }
            }
        }
        for (int ring = 0; ring < 3; ring++) {
            d = d * 31 + moduli[ring].intValueExact();
            for (BigInteger residue : residues[ring]) {
                d = d * 31 + residue.intValueExact();
            }
        }
        return d * 31 + 1;
    }

    // ---- what these are made of

    private static BigInteger big(long value) {
        return BigInteger.valueOf(value);
    }

    private static void index(int index, int count) {
        if (index < 0 || index >= count) {
            throw new IndexOutOfBoundsException();
        }
    }

    private static void argument(boolean isRight) {
        if (!isRight) {
            throw new IllegalArgumentException();
        }
    }

    private BigInteger number(boolean isLong, int k) {
        index(k, 4);
        return numbers[isLong ? 1 : 0][k];
    }

    private BigInteger modulusOf(int ring) {
        index(ring, 3);
        return moduli[ring];
    }

    private BigInteger residueOf(int ring, int slot) {
        index(ring, 3);
        index(slot, 4);
        return residues[ring][slot];
    }

    private static BigInteger bound(boolean isLong) {
        return ONE.shiftLeft(isLong ? 63 : 31);
    }

    private static boolean isWithin(boolean isLong, BigInteger value) {
        return value.compareTo(bound(isLong)) < 0 && value.compareTo(bound(isLong).negate()) >= 0;
    }

    private static BigInteger round(boolean isLong, BigInteger value) {
        return value.add(bound(isLong)).mod(bound(isLong).shiftLeft(1)).subtract(bound(isLong));
    }

    private static BigInteger floor(BigInteger a, BigInteger b) {
        BigInteger[] both = a.divideAndRemainder(b);
        boolean isBelow = both[1].signum() != 0 && both[1].signum() != b.signum();
        return isBelow ? both[0].subtract(ONE) : both[0];
    }

    private static BigInteger restOf(BigInteger a, BigInteger b) {
        return a.subtract(floor(a, b).multiply(b));
    }

    private BigInteger joined(boolean isLong, int k, int from, int what) {
        BigInteger a = number(isLong, k);
        BigInteger b = number(isLong, from);
        argument(what >= 0 && what <= 2);
        return what == 0 ? a.add(b) : what == 1 ? a.subtract(b) : a.multiply(b);
    }

    private int divide(boolean isLong, int k, BigInteger by, boolean isRest, boolean isFloor) {
        BigInteger value = number(isLong, k);
        if (by.signum() == 0) {
            return refuse();
        }
        BigInteger quotient = isFloor ? floor(value, by) : value.divide(by);
        BigInteger left = value.subtract(quotient.multiply(by));
        return set(isLong, k, round(isLong, isRest ? left : quotient));
    }

    private int set(boolean isLong, int k, BigInteger value) {
        index(k, 4);
        if (!isWithin(isLong, value)) {
            throw new IllegalStateException("the model left its bounds");
        }
        numbers[isLong ? 1 : 0][k] = value;
        return value.signum();
    }

    private int setExact(boolean isLong, int k, BigInteger value) {
        return isWithin(isLong, value) ? set(isLong, k, value) : refuse();
    }

    private int setSlot(int ring, int slot, BigInteger value) {
        residues[ring][slot] = restOf(value, moduli[ring]);
        return residues[ring][slot].intValueExact();
    }

    private int refuse() {
        refusals++;
        return -9;
    }
}
