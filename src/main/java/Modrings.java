/** Whole numbers of two kinds, with bounds, and rings of the residues that a division leaves. */
public final class Modrings {
    private static final int REFUSED = -9;
    private static final int NUMBERS = 4;
    private static final int RINGS = 3;
    private static final int SLOTS = 4;

    // INTS stand in 64 bits too, so that one piece of code serves both kinds.
    private final long[] ints = new long[NUMBERS];
    private final long[] longs = new long[NUMBERS];
    private final int[] moduli = {7, 10, -12};
    private final int[] residues = new int[RINGS * SLOTS];
    private int refusals;
    private int knocks;

    public Modrings() {
    }

    // ---- numbers

    public int put(boolean isLong, int k, int high, int low) throws IndexOutOfBoundsException {
        long joined = ((long) high << 32) | (low & Whole.LOW_HALF);
        return keep(isLong, k, isLong ? joined : low);
    }

    public int copy(boolean isLong, int k, int from) throws IndexOutOfBoundsException {
        return keep(isLong, k, numberAt(isLong, from));
    }

    public int widen(int k, int from) throws IndexOutOfBoundsException {
        return keep(true, k, numberAt(false, from));
    }

    public int narrow(int k, int from) throws IndexOutOfBoundsException {
        needIndex(k, NUMBERS);
        long value = numberAt(true, from);
        if (!Whole.isWithin(false, value)) {
            return refuse();
        }
        return keep(false, k, value);
    }

    public int exact(boolean isLong, int k, int from, int what)
            throws IndexOutOfBoundsException, IllegalArgumentException {
        long a = numberAt(isLong, k);
        long b = numberAt(isLong, from);
        needChoice(what, 2);
        return keepExact(isLong, k, a, b, what);
    }

    public boolean fits(boolean isLong, int a, int b, int what)
            throws IndexOutOfBoundsException, IllegalArgumentException {
        long one = numberAt(isLong, a);
        long other = numberAt(isLong, b);
        needChoice(what, 2);
        return Whole.isExact(isLong, one, other, what);
    }

    public int alone(boolean isLong, int k, int what)
            throws IndexOutOfBoundsException, IllegalArgumentException {
        long value = numberAt(isLong, k);
        needChoice(what, 2);
        if (what == 2) {
            return keepExact(isLong, k, 0, value, Whole.LESS);
        }
        return keepExact(isLong, k, value, 1, what == 0 ? Whole.SUM : Whole.LESS);
    }

    public int timesInt(int k, int from) throws IndexOutOfBoundsException {
        return keepExact(true, k, numberAt(true, k), numberAt(false, from), Whole.PRODUCT);
    }

    public int full(int k, int a, int b) throws IndexOutOfBoundsException {
        return keep(true, k, numberAt(false, a) * numberAt(false, b));
    }

    public int high(int k, int a, int b) throws IndexOutOfBoundsException {
        return keep(true, k, Whole.upperHalf(true, numberAt(true, a), numberAt(true, b)));
    }

    public int round(boolean isLong, int k, int from, int what)
            throws IndexOutOfBoundsException, IllegalArgumentException {
        long a = numberAt(isLong, k);
        long b = numberAt(isLong, from);
        needChoice(what, 2);
        return keepRound(isLong, k, Whole.joined(a, b, what));
    }

    public int abs(boolean isLong, int k) throws IndexOutOfBoundsException {
        long value = numberAt(isLong, k);
        return keepRound(isLong, k, value < 0 ? -value : value);
    }

    public int extreme(boolean isLong, int k, int from, boolean isGreater)
            throws IndexOutOfBoundsException {
        long before = numberAt(isLong, k);
        long other = numberAt(isLong, from);
        long after = isGreater ? Math.max(before, other) : Math.min(before, other);
        keep(isLong, k, after);
        return after == before ? 0 : 1;
    }

    public int floor(boolean isLong, int k, int from, boolean isRest)
            throws IndexOutOfBoundsException {
        return keepFloor(isLong, k, numberAt(isLong, from), isRest);
    }

    public int floorInt(int k, int from, boolean isRest) throws IndexOutOfBoundsException {
        return keepFloor(true, k, numberAt(false, from), isRest);
    }

    public int towards(boolean isLong, int k, int from, boolean isRest)
            throws IndexOutOfBoundsException {
        long value = numberAt(isLong, k);
        long by = numberAt(isLong, from);
        if (by == 0) {
            return refuse();
        }
        return keepRound(isLong, k, isRest ? Whole.restTowards(value, by) : Whole.quotientTowards(value, by));
    }

    public int average(boolean isLong, int k, int from, boolean isUp)
            throws IndexOutOfBoundsException {
        return keep(isLong, k, Whole.averageOf(numberAt(isLong, k), numberAt(isLong, from), isUp));
    }

    public int chain(int k, int a, int b, int c)
            throws IndexOutOfBoundsException, IllegalArgumentException {
        long value = numberAt(true, k);
        needDivisors(a, b, c);
        return keep(true, k, Whole.chained(value, a, b, c));
    }

    public int atOnce(int k, int a, int b, int c)
            throws IndexOutOfBoundsException, IllegalArgumentException {
        long value = numberAt(true, k);
        needDivisors(a, b, c);
        long firstTwo = (long) a * b;
        if (!Whole.isExact(true, firstTwo, c, Whole.PRODUCT)) {
            return refuse();
        }
        return keep(true, k, Whole.floorOf(value, firstTwo * c));
    }

    // ---- what is asked of numbers

    public String distance(boolean isLong, int a, int b) throws IndexOutOfBoundsException {
        long one = numberAt(isLong, a);
        long other = numberAt(isLong, b);
        return Digits.ofUnsigned(Math.max(one, other) - Math.min(one, other));
    }

    public int compare(boolean isLong, int a, int b) throws IndexOutOfBoundsException {
        return Whole.order(numberAt(isLong, a), numberAt(isLong, b));
    }

    public String text(boolean isLong, int k) throws IndexOutOfBoundsException {
        return Digits.ofSigned(numberAt(isLong, k));
    }

    public int ofNumber(boolean isLong, int k, int what)
            throws IndexOutOfBoundsException, IllegalArgumentException {
        long value = numberAt(isLong, k);
        needChoice(what, 4);
        switch (what) {
            case 0:
                return Whole.order(value, 0);
            case 1:
                return (int) value;
            case 2:
                return (int) (value >> 32);
            case 3:
                return Whole.edge(isLong, value);
            default:
                return Digits.countOf(value);
        }
    }

    public int rest(boolean isLong, int k, int by)
            throws IndexOutOfBoundsException, IllegalArgumentException {
        long value = numberAt(isLong, k);
        needNotZero(by);
        return (int) Whole.restOf(value, by);
    }

    public String quotient(boolean isLong, int k, int by)
            throws IndexOutOfBoundsException, IllegalArgumentException {
        long value = numberAt(isLong, k);
        needNotZero(by);
        return Digits.ofSigned(Whole.goneRound(isLong, Whole.floorOf(value, by)));
    }

    // ---- rings

    public int modulus(int ring, int modulus)
            throws IndexOutOfBoundsException, IllegalArgumentException {
        int before = modulusAt(ring);
        needNotZero(modulus);
        moduli[ring] = modulus;
        for (int slot = 0; slot < SLOTS; slot++) {
            keepResidue(ring, slot, residueAt(ring, slot));
        }
        return before;
    }

    public int bring(int ring, int slot, boolean isLong, int k) throws IndexOutOfBoundsException {
        return keepResidue(ring, slot, numberAt(isLong, k));
    }

    public int lift(int ring, int slot, boolean isLong, int k) throws IndexOutOfBoundsException {
        return keep(isLong, k, residueAt(ring, slot));
    }

    public int plus(int ring, int slot, int other, boolean isLess)
            throws IndexOutOfBoundsException {
        long a = residueAt(ring, slot);
        long b = residueAt(ring, other);
        return keepResidue(ring, slot, isLess ? a - b : a + b);
    }

    public int times(int ring, int slot, int other) throws IndexOutOfBoundsException {
        long a = residueAt(ring, slot);
        long b = residueAt(ring, other);
        return keepResidue(ring, slot, a * b);
    }

    public int power(int ring, int slot, int exponent)
            throws IndexOutOfBoundsException, IllegalArgumentException {
        int base = residueAt(ring, slot);
        if (exponent < 0) {
            throw new IllegalArgumentException("the exponent is below 0");
        }
        return keepResidue(ring, slot, Residues.raised(base, exponent, modulusAt(ring)));
    }

    public int inverse(int ring, int slot) throws IndexOutOfBoundsException {
        int before = residueAt(ring, slot);
        int by = modulusAt(ring);
        if (!Residues.hasInverse(before, by)) {
            return refuse();
        }
        keepResidue(ring, slot, Residues.inverseOf(before, by));
        return 1;
    }

    public boolean isUnit(int ring, int slot) throws IndexOutOfBoundsException {
        return Residues.hasInverse(residueAt(ring, slot), modulusAt(ring));
    }

    public int residue(int ring, int slot) throws IndexOutOfBoundsException {
        return residueAt(ring, slot);
    }

    public String ringText(int ring) throws IndexOutOfBoundsException {
        StringBuilder line = new StringBuilder();
        line.append(modulusAt(ring)).append(':');
        for (int slot = 0; slot < SLOTS; slot++) {
            line.append(' ').append(residueAt(ring, slot));
        }
        return line.toString();
    }

    public boolean areAlike(int ring, boolean isLong, int a, int b)
            throws IndexOutOfBoundsException {
        int by = modulusAt(ring);
        long one = numberAt(isLong, a);
        long other = numberAt(isLong, b);
        return Whole.restOf(one, by) == Whole.restOf(other, by);
    }

    public int together(int k, int ring, int slot, int other, int from)
            throws IndexOutOfBoundsException {
        needIndex(k, NUMBERS);
        int one = residueAt(ring, slot);
        int two = residueAt(other, from);
        long meeting = Residues.meetingOf(one, modulusAt(ring), two, modulusAt(other));
        if (meeting == Residues.NONE) {
            return refuse();
        }
        return keep(true, k, meeting);
    }

    public String common(int ring, int other, boolean isLeast) throws IndexOutOfBoundsException {
        long one = Residues.sizeOf(modulusAt(ring));
        long two = Residues.sizeOf(modulusAt(other));
        long divisor = Residues.greatestDivisor(one, two);
        return Digits.ofSigned(isLeast ? Whole.floorOf(one, divisor) * two : divisor);
    }

    // ---- the whole

    public int house(int what) throws IllegalArgumentException {
        needChoice(what, 3);
        switch (what) {
            case 0:
                return refusals;
            case 1:
                return knocks;
            case 2:
                return countZeros(ints) + countZeros(longs);
            default:
                return countUnits();
        }
    }

    public int knock() {
        knocks++;
        return knocks;
    }

    public boolean isSound() {
        return areNumbersSound(false) && areNumbersSound(true) && areRingsSound() && areMeetingsSound();
    }

    public long digest() {
        long d = 7837;
        for (int what = 0; what <= 3; what++) {
            d = d * 31 + house(what);
        }
        d = digestNumbers(d, false);
        d = digestNumbers(d, true);
        for (int ring = 0; ring < RINGS; ring++) {
            d = d * 31 + modulusAt(ring);
            for (int slot = 0; slot < SLOTS; slot++) {
                d = d * 31 + residueAt(ring, slot);
            }
        }
        return d * 31 + (isSound() ? 1 : 0);
    }

    // ---- what is looked at before a call goes on

    private static void needIndex(int index, int count) {
        if (index < 0 || index >= count) {
            throw new IndexOutOfBoundsException("there is no such one");
        }
    }

    private static void needChoice(int what, int last) {
        if (what < 0 || what > last) {
            throw new IllegalArgumentException("there is no such choice");
        }
    }

    private static void needNotZero(int divisor) {
        if (divisor == 0) {
            throw new IllegalArgumentException("a divisor is 0");
        }
    }

    private static void needDivisors(int a, int b, int c) {
        if (a < 1 || b < 1 || c < 1) {
            throw new IllegalArgumentException("a divisor is below 1");
        }
    }

    // ---- reading and keeping

    private long numberAt(boolean isLong, int k) {
        needIndex(k, NUMBERS);
        return isLong ? longs[k] : ints[k];
    }

    private int modulusAt(int ring) {
        needIndex(ring, RINGS);
        return moduli[ring];
    }

    private int residueAt(int ring, int slot) {
        needIndex(ring, RINGS);
        needIndex(slot, SLOTS);
        return residues[ring * SLOTS + slot];
    }

    private int refuse() {
        refusals++;
        return REFUSED;
    }

    private int keep(boolean isLong, int k, long value) {
        needIndex(k, NUMBERS);
        if (isLong) {
            longs[k] = value;
        } else {
            ints[k] = value;
        }
        return Whole.order(value, 0);
    }

    private int keepRound(boolean isLong, int k, long value) {
        return keep(isLong, k, Whole.goneRound(isLong, value));
    }

    private int keepExact(boolean isLong, int k, long a, long b, int what) {
        if (!Whole.isExact(isLong, a, b, what)) {
            return refuse();
        }
        return keep(isLong, k, Whole.joined(a, b, what));
    }

    private int keepFloor(boolean isLong, int k, long by, boolean isRest) {
        long value = numberAt(isLong, k);
        if (by == 0) {
            return refuse();
        }
        return keepRound(isLong, k, isRest ? Whole.restOf(value, by) : Whole.floorOf(value, by));
    }

    private int keepResidue(int ring, int slot, long value) {
        int kept = Residues.residueOf(value, modulusAt(ring));
        needIndex(slot, SLOTS);
        residues[ring * SLOTS + slot] = kept;
        return kept;
    }

    // ---- counting and checking

    private static int countZeros(long[] row) {
        int count = 0;
        for (long value : row) {
            if (value == 0) {
                count++;
            }
        }
        return count;
    }

    private int countUnits() {
        int count = 0;
        for (int ring = 0; ring < RINGS; ring++) {
            for (int slot = 0; slot < SLOTS; slot++) {
                if (isUnit(ring, slot)) {
                    count++;
                }
            }
        }
        return count;
    }

    private long digestNumbers(long start, boolean isLong) {
        long d = start;
        for (int k = 0; k < NUMBERS; k++) {
            for (int what = 0; what <= 4; what++) {
                d = d * 31 + ofNumber(isLong, k, what);
            }
        }
        return d;
    }

    private boolean areNumbersSound(boolean isLong) {
        for (int k = 0; k < NUMBERS; k++) {
            if (!Laws.holdForPair(isLong, numberAt(isLong, k), numberAt(isLong, (k + 1) % NUMBERS))) {
                return false;
            }
        }
        return true;
    }

    private boolean areRingsSound() {
        for (int ring = 0; ring < RINGS; ring++) {
            int by = modulusAt(ring);
            for (int slot = 0; slot < SLOTS; slot++) {
                if (!Laws.holdForResidue(residueAt(ring, slot), by)) {
                    return false;
                }
            }
            for (int k = 0; k < NUMBERS; k++) {
                if (!Laws.keepResidues(numberAt(false, k), numberAt(false, (k + 1) % NUMBERS), by)) {
                    return false;
                }
            }
        }
        return true;
    }

    private boolean areMeetingsSound() {
        for (int ring = 0; ring < RINGS; ring++) {
            for (int other = ring + 1; other < RINGS; other++) {
                if (!Laws.holdForMeeting(residueAt(ring, 0), modulusAt(ring), residueAt(other, 0), modulusAt(other))) {
                    return false;
                }
            }
        }
        return true;
    }

    /** Arithmetic of numbers that stand in 64 bits, of an INT too. */
    private static final class Whole {
        static final int SUM = 0;
        static final int LESS = 1;
        static final int PRODUCT = 2;
        static final long LOW_HALF = 0xFFFFFFFFL;

        static int order(long a, long b) {
            return a < b ? -1 : a > b ? 1 : 0;
        }

        static boolean isWithin(boolean isLong, long value) {
            return isLong || value == (int) value;
        }

        static long goneRound(boolean isLong, long value) {
            return isLong ? value : (int) value;
        }

        /** Tells -1 for the least number of a kind, 1 for the greatest one, otherwise 0. */
        static int edge(boolean isLong, long value) {
            long least = isLong ? Long.MIN_VALUE : Integer.MIN_VALUE;
            long greatest = isLong ? Long.MAX_VALUE : Integer.MAX_VALUE;
            return value == least ? -1 : value == greatest ? 1 : 0;
        }

        /** The sum, difference or product as it goes round in 64 bits. */
        static long joined(long a, long b, int what) {
            if (what == SUM) {
                return a + b;
            }
            return what == LESS ? a - b : a * b;
        }

        static boolean isExact(boolean isLong, long a, long b, int what) {
            long result = joined(a, b, what);
            return isTrue(a, b, what, result) && isWithin(isLong, result);
        }

        /** Whether a result in 64 bits did not go round. */
        private static boolean isTrue(long a, long b, int what, long result) {
            if (what == SUM) {
                return ((a ^ result) & (b ^ result)) >= 0;
            }
            if (what == LESS) {
                return ((a ^ b) & (a ^ result)) >= 0;
            }
            // The least number divided by -1 goes round itself, so the way back would not show it.
            if (b == 0 || b == -1) {
                return b == 0 || a != Long.MIN_VALUE;
            }
            return result / b == a;
        }

        /** FLOOR of the true product divided by 2^SIZE. */
        static long upperHalf(boolean isLong, long a, long b) {
            if (!isLong) {
                return (a * b) >> 32;
            }
            long aHigh = a >> 32;
            long aLow = a & LOW_HALF;
            long bHigh = b >> 32;
            long bLow = b & LOW_HALF;
            long middle = aHigh * bLow + ((aLow * bLow) >>> 32);
            long otherMiddle = aLow * bHigh + (middle & LOW_HALF);
            return aHigh * bHigh + (middle >> 32) + (otherMiddle >> 32);
        }

        /** No sum is made here, because the true one may be beyond 64 bits. */
        static long averageOf(long a, long b, boolean isUp) {
            long halfApart = (a ^ b) >> 1;
            return isUp ? (a | b) - halfApart : (a & b) + halfApart;
        }

        // No caller divides by 0; the four tests below keep each division safe where it stands.

        static long floorOf(long a, long b) {
            return b == 0 ? 0 : Math.floorDiv(a, b);
        }

        static long restOf(long a, long b) {
            if (b == 0) {
                return 0;
            }
            long rest = a % b;
            return rest != 0 && (rest < 0) != (b < 0) ? rest + b : rest;
        }

        static long quotientTowards(long a, long b) {
            return b == 0 ? 0 : a / b;
        }

        static long restTowards(long a, long b) {
            return b == 0 ? 0 : a % b;
        }

        static long chained(long value, int a, int b, int c) {
            return floorOf(floorOf(floorOf(value, a), b), c);
        }
    }

    /** Numbers written in digits. */
    private static final class Digits {
        private static final int MOST = 20;

        static String ofSigned(long value) {
            StringBuilder backwards = new StringBuilder();
            // 0 less the least number is its true size, if it is read without a sign.
            appendBackwards(backwards, value < 0 ? -value : value);
            if (value < 0) {
                backwards.append('-');
            }
            return backwards.reverse().toString();
        }

        static String ofUnsigned(long value) {
            StringBuilder backwards = new StringBuilder();
            appendBackwards(backwards, value);
            return backwards.reverse().toString();
        }

        private static void appendBackwards(StringBuilder backwards, long unsigned) {
            long left = unsigned;
            int count = 0;
            do {
                // Half of it is never below 0 for Java, so that this is the tenth without a sign.
                long tenth = (left >>> 1) / 5;
                backwards.append((char) ('0' + (int) (left - tenth * 10)));
                left = tenth;
                count++;
            } while (left != 0 && count < MOST);
        }

        /** How many signs ofSigned() has. */
        static int countOf(long value) {
            int count = value < 0 ? 1 : 0;
            long left = value;
            do {
                left /= 10;
                count++;
            } while (left != 0 && count < MOST);
            return count;
        }
    }

    /** Arithmetic of residues; every modulus is an INT that is not 0. */
    private static final class Residues {
        static final long NONE = -1;
        // Euclid's chain of two numbers up to 2^31 has fewer than 50 steps.
        private static final int MOST_STEPS = 1000;

        static long sizeOf(int modulus) {
            return Math.abs((long) modulus);
        }

        static int residueOf(long value, int modulus) {
            return (int) Whole.restOf(value, modulus);
        }

        static int raised(int base, int exponent, int modulus) {
            int result = residueOf(1, modulus);
            int square = base;
            for (int bit = 0; bit < 31; bit++) {
                if (((exponent >> bit) & 1) == 1) {
                    result = residueOf((long) result * square, modulus);
                }
                square = residueOf((long) square * square, modulus);
            }
            return result;
        }

        static long greatestDivisor(long a, long b) {
            long greater = a;
            long lesser = b;
            for (int step = 0; step < MOST_STEPS && lesser != 0; step++) {
                long left = greater % lesser;
                greater = lesser;
                lesser = left;
            }
            return greater;
        }

        static boolean hasInverse(int residue, int modulus) {
            return inverseBelow(residue, sizeOf(modulus)) != NONE;
        }

        /** Asked only of a residue that has one: NONE would be a residue here too. */
        static int inverseOf(int residue, int modulus) {
            return residueOf(inverseBelow(residue, sizeOf(modulus)), modulus);
        }

        /** The inverse from 0 to size - 1, or NONE; by 1 it is 0, since 0 is the residue of 1 there. */
        private static long inverseBelow(long value, long size) {
            long greater = size;
            long lesser = Whole.restOf(value, size);
            long factor = 0;
            long nextFactor = 1;
            for (int step = 0; step < MOST_STEPS && lesser != 0; step++) {
                long quotient = greater / lesser;
                long left = greater - quotient * lesser;
                greater = lesser;
                lesser = left;
                long next = factor - quotient * nextFactor;
                factor = nextFactor;
                nextFactor = next;
            }
            return greater == 1 ? Whole.restOf(factor, size) : NONE;
        }

        /** The least number from 0 on that both residues agree with, or NONE. */
        static long meetingOf(int one, int modulus, int other, int otherModulus) {
            long size = sizeOf(modulus);
            long otherSize = sizeOf(otherModulus);
            long start = Whole.restOf(one, size);
            long apart = other - start;
            long divisor = greatestDivisor(size, otherSize);
            if (Whole.restOf(apart, divisor) != 0) {
                return NONE;
            }
            long stride = Whole.floorOf(size, divisor);
            long turns = Whole.floorOf(otherSize, divisor);
            // Both factors stay below 2^32 and 2^31, so that their product keeps within 64 bits.
            long steps = Whole.restOf(Whole.floorOf(apart, divisor) * inverseBelow(stride, turns), turns);
            return start + size * steps;
        }
    }

    /** What isSound() asks: each law is put to the numbers that stand there. */
    private static final class Laws {
        static boolean holdForPair(boolean isLong, long w, long v) {
            return holdForAverages(w, v)
                    && (v == 0 || holdForFloor(isLong, w, v) && holdForTowards(isLong, w, v))
                    && holdForProduct(isLong, w, v)
                    && (!isLong || Whole.chained(w, 2, 3, 5) == Whole.floorOf(w, 30));
        }

        /** Both averages together are the sum, lie between the two, and are 1 apart if it is odd. */
        private static boolean holdForAverages(long w, long v) {
            long down = Whole.averageOf(w, v, false);
            long up = Whole.averageOf(w, v, true);
            return down + up == w + v
                    && up - down == ((w ^ v) & 1)
                    && down >= Math.min(w, v)
                    && up <= Math.max(w, v);
        }

        private static boolean holdForFloor(boolean isLong, long w, long v) {
            long quotient = Whole.goneRound(isLong, Whole.floorOf(w, v));
            long rest = Whole.restOf(w, v);
            boolean isOnSide = v < 0 ? rest <= 0 && rest > v : rest >= 0 && rest < v;
            return isOnSide && Whole.goneRound(isLong, quotient * v + rest) == w;
        }

        private static boolean holdForTowards(boolean isLong, long w, long v) {
            long quotient = Whole.goneRound(isLong, Whole.quotientTowards(w, v));
            return Whole.goneRound(isLong, quotient * v + Whole.restTowards(w, v)) == w;
        }

        private static boolean holdForProduct(boolean isLong, long w, long v) {
            long round = Whole.goneRound(isLong, w * v);
            long due = round < 0 ? -1 : 0;
            boolean isDue = Whole.upperHalf(isLong, w, v) == due;
            return isDue == Whole.isExact(isLong, w, v, Whole.PRODUCT);
        }

        static boolean holdForResidue(int residue, int modulus) {
            if (Residues.residueOf(residue, modulus) != residue) {
                return false;
            }
            if (!Residues.hasInverse(residue, modulus)) {
                return true;
            }
            long product = (long) residue * Residues.inverseOf(residue, modulus);
            return Residues.residueOf(product, modulus) == Residues.residueOf(1, modulus);
        }

        /** A sum and a product of INTS have the residue that those of their residues have. */
        static boolean keepResidues(long a, long b, int modulus) {
            long aResidue = Residues.residueOf(a, modulus);
            long bResidue = Residues.residueOf(b, modulus);
            return Residues.residueOf(a + b, modulus) == Residues.residueOf(aResidue + bResidue, modulus)
                    && Residues.residueOf(a * b, modulus) == Residues.residueOf(aResidue * bResidue, modulus);
        }

        static boolean holdForMeeting(int one, int modulus, int other, int otherModulus) {
            long meeting = Residues.meetingOf(one, modulus, other, otherModulus);
            return meeting == Residues.NONE
                    || Residues.residueOf(meeting, modulus) == one
                    && Residues.residueOf(meeting, otherModulus) == other;
        }
    }
}
