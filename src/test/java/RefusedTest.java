/**
 * What is REFUSED (and only just, at the bounds), and that it is -9 then, that it is counted, and that
 * nothing else changes: Check.refused() looks at all of that.
 */
public final class RefusedTest {
    private static final boolean INT = Made.INT;
    private static final boolean LONG = Made.LONG;
    private static final int IMIN = Made.IMIN;
    private static final int IMAX = Made.IMAX;
    private static final long LMIN = Made.LMIN;
    private static final long LMAX = Made.LMAX;
    private static final int SUM = 0;
    private static final int LESS = 1;
    private static final int PRODUCT = 2;

    /** exact() is REFUSED, and fits() says so, but tells no REFUSED. */
    private static void beyond(boolean isLong, long a, long b, int what) {
        Modrings x = Made.numbers(isLong, a, b);
        String sentence = " beyond the bounds: " + a + " and " + b + " by " + what;
        Check.asks("7 fits" + sentence, x, false, () -> x.fits(isLong, 0, 1, what));
        Check.refused("6 exact" + sentence, x, () -> x.exact(isLong, 0, 1, what));
    }

    private static void within(boolean isLong, long a, long b, int what, long want) {
        Modrings x = Made.numbers(isLong, a, b);
        String sentence = " within the bounds: " + a + " and " + b + " by " + what;
        Check.asks("7 fits" + sentence, x, true, () -> x.fits(isLong, 0, 1, what));
        Check.becomes("6 exact" + sentence, x, isLong, 0, want, () -> x.exact(isLong, 0, 1, what));
    }

    // ---- narrow

    static void narrowAboveTheBounds() {
        for (long value : new long[] {IMAX + 1L, 1L << 32, (1L << 32) + 1, LMAX, 0xFFFFFFFFL}) {
            Modrings x = Made.busy();
            Made.putLong(x, 1, value);
            Check.refused("5 narrow " + value, x, () -> x.narrow(0, 1));
        }
    }

    static void narrowBelowTheBounds() {
        for (long value : new long[] {IMIN - 1L, -(1L << 32), -(1L << 32) - 1, LMIN}) {
            Modrings x = Made.busy();
            Made.putLong(x, 1, value);
            Check.refused("5 narrow " + value, x, () -> x.narrow(0, 1));
        }
    }

    static void narrowAtTheBounds() {
        for (long value : new long[] {IMIN, IMIN + 1, -1, 0, 1, IMAX - 1, IMAX}) {
            Modrings x = Made.busy();
            Made.putLong(x, 1, value);
            Check.becomes("5 narrow " + value, x, INT, 3, value, () -> x.narrow(3, 1));
        }
    }

    // ---- exact and fits

    static void sumAboveTheBounds() {
        for (boolean isLong : Made.KINDS) {
            long greatest = Made.greatest(isLong);
            beyond(isLong, greatest, 1, SUM);
            beyond(isLong, 1, greatest, SUM);
            beyond(isLong, greatest, greatest, SUM);
            within(isLong, greatest, 0, SUM, greatest);
            within(isLong, greatest - 1, 1, SUM, greatest);
            within(isLong, greatest, -1, SUM, greatest - 1);
        }
    }

    static void sumBelowTheBounds() {
        for (boolean isLong : Made.KINDS) {
            long least = Made.least(isLong);
            beyond(isLong, least, -1, SUM);
            beyond(isLong, -1, least, SUM);
            beyond(isLong, least, least, SUM);
            within(isLong, least, 0, SUM, least);
            within(isLong, least + 1, -1, SUM, least);
            within(isLong, least, Made.greatest(isLong), SUM, -1);
        }
    }

    static void differenceAboveTheBounds() {
        for (boolean isLong : Made.KINDS) {
            long least = Made.least(isLong);
            long greatest = Made.greatest(isLong);
            beyond(isLong, greatest, -1, LESS);
            beyond(isLong, greatest, least, LESS);
            beyond(isLong, 0, least, LESS);
            beyond(isLong, 1, least, LESS);
            within(isLong, -1, least, LESS, greatest);
            within(isLong, greatest, 0, LESS, greatest);
            within(isLong, greatest, greatest, LESS, 0);
        }
    }

    static void differenceBelowTheBounds() {
        for (boolean isLong : Made.KINDS) {
            long least = Made.least(isLong);
            long greatest = Made.greatest(isLong);
            beyond(isLong, least, 1, LESS);
            beyond(isLong, least, greatest, LESS);
            beyond(isLong, -2, greatest, LESS);
            within(isLong, -1, greatest, LESS, least);
            within(isLong, least, 0, LESS, least);
            within(isLong, least, least, LESS, 0);
        }
    }

    static void productAboveTheBounds() {
        for (boolean isLong : Made.KINDS) {
            long least = Made.least(isLong);
            long greatest = Made.greatest(isLong);
            long half = greatest / 2;
            beyond(isLong, least, -1, PRODUCT);
            beyond(isLong, -1, least, PRODUCT);
            beyond(isLong, least, least, PRODUCT);
            beyond(isLong, greatest, greatest, PRODUCT);
            beyond(isLong, half + 1, 2, PRODUCT);
            within(isLong, half, 2, PRODUCT, greatest - 1);
            within(isLong, greatest, 1, PRODUCT, greatest);
            within(isLong, -greatest, -1, PRODUCT, greatest);
            within(isLong, -1, -greatest, PRODUCT, greatest);
        }
        within(INT, 46340, 46340, PRODUCT, 2147395600);
        beyond(INT, 46341, 46341, PRODUCT);
        within(LONG, 3037000499L, 3037000499L, PRODUCT, 9223372030926249001L);
        beyond(LONG, 3037000500L, 3037000500L, PRODUCT);
        // These go round to numbers that look right: 0, and one above 0.
        beyond(INT, 65536, 65536, PRODUCT);
        beyond(INT, 65537, 65537, PRODUCT);
        beyond(LONG, 1L << 32, 1L << 32, PRODUCT);
        beyond(LONG, (1L << 32) + 1, (1L << 32) + 1, PRODUCT);
    }

    static void productBelowTheBounds() {
        for (boolean isLong : Made.KINDS) {
            long least = Made.least(isLong);
            long greatest = Made.greatest(isLong);
            beyond(isLong, least, 2, PRODUCT);
            beyond(isLong, 2, least, PRODUCT);
            beyond(isLong, least, greatest, PRODUCT);
            beyond(isLong, greatest, least, PRODUCT);
            beyond(isLong, least / 2 - 1, 2, PRODUCT);
            within(isLong, least / 2, 2, PRODUCT, least);
            within(isLong, 2, least / 2, PRODUCT, least);
            within(isLong, -2, least / -2, PRODUCT, least);
            within(isLong, least, 1, PRODUCT, least);
            within(isLong, 1, least, PRODUCT, least);
            within(isLong, greatest, -1, PRODUCT, -greatest);
            within(isLong, least, 0, PRODUCT, 0);
            within(isLong, 0, least, PRODUCT, 0);
        }
    }

    // ---- alone

    private static void aloneBeyond(boolean isLong, long value, int what) {
        Modrings x = Made.numbers(isLong, 3, 4, value);
        Check.refused("8 alone " + value + " by " + what, x, () -> x.alone(isLong, 2, what));
    }

    private static void aloneWithin(boolean isLong, long value, int what, long want) {
        Modrings x = Made.numbers(isLong, 3, 4, value);
        Check.becomes("8 alone " + value + " by " + what, x, isLong, 2, want, () -> x.alone(isLong, 2, what));
    }

    static void oneMoreThanTheGreatest() {
        for (boolean isLong : Made.KINDS) {
            aloneBeyond(isLong, Made.greatest(isLong), 0);
            aloneWithin(isLong, Made.greatest(isLong) - 1, 0, Made.greatest(isLong));
            aloneWithin(isLong, Made.least(isLong), 0, Made.least(isLong) + 1);
            aloneWithin(isLong, -1, 0, 0);
        }
    }

    static void oneLessThanTheLeast() {
        for (boolean isLong : Made.KINDS) {
            aloneBeyond(isLong, Made.least(isLong), 1);
            aloneWithin(isLong, Made.least(isLong) + 1, 1, Made.least(isLong));
            aloneWithin(isLong, Made.greatest(isLong), 1, Made.greatest(isLong) - 1);
            aloneWithin(isLong, 1, 1, 0);
        }
    }

    static void zeroLessTheLeast() {
        for (boolean isLong : Made.KINDS) {
            aloneBeyond(isLong, Made.least(isLong), 2);
            aloneWithin(isLong, Made.least(isLong) + 1, 2, Made.greatest(isLong));
            aloneWithin(isLong, Made.greatest(isLong), 2, Made.least(isLong) + 1);
            aloneWithin(isLong, 0, 2, 0);
        }
    }

    // ---- timesInt

    private static Modrings longAndInt(long a, long b) {
        Modrings x = Made.longs(8, a);
        x.put(INT, 2, 0, (int) b);
        return x;
    }

    private static void timesIntBeyond(long a, long b) {
        Modrings x = longAndInt(a, b);
        Check.refused("9 timesInt " + a + " and " + b, x, () -> x.timesInt(1, 2));
    }

    private static void timesIntWithin(long a, long b, long want) {
        Modrings x = longAndInt(a, b);
        Check.becomes("9 timesInt " + a + " and " + b, x, LONG, 1, want, () -> x.timesInt(1, 2));
    }

    static void timesIntAboveTheBounds() {
        timesIntBeyond(LMIN, -1);
        timesIntBeyond(LMIN, IMIN);
        timesIntBeyond(LMAX, 2);
        timesIntBeyond(LMAX, IMAX);
        timesIntBeyond(-(1L << 32), IMIN);
        timesIntBeyond(1L << 33, 1 << 30);
        timesIntWithin(LMAX, 1, LMAX);
        timesIntWithin(-LMAX, -1, LMAX);
        timesIntWithin(1L << 32, 1 << 30, 1L << 62);
        timesIntWithin(-(1L << 31), IMIN, 1L << 62);
    }

    static void timesIntBelowTheBounds() {
        timesIntBeyond(LMIN, 2);
        timesIntBeyond(LMAX, -2);
        timesIntBeyond(LMAX, IMIN);
        timesIntBeyond((1L << 32) + 1, IMIN);
        timesIntWithin(1L << 32, IMIN, LMIN);
        timesIntWithin(LMIN, 1, LMIN);
        timesIntWithin(LMAX, -1, -LMAX);
        timesIntWithin(LMIN, 0, 0);
    }

    // ---- by 0

    static void floorByZero() {
        for (boolean isLong : Made.KINDS) {
            for (long value : new long[] {5, -5, 0, Made.least(isLong), Made.greatest(isLong)}) {
                Modrings x = Made.numbers(isLong, value, 0);
                Check.refused("15 FLOOR of " + value + " by 0", x, () -> x.floor(isLong, 0, 1, false));
                Check.refused("15 REST of " + value + " by 0", x, () -> x.floor(isLong, 0, 1, true));
            }
        }
    }

    static void floorIntByZero() {
        for (long value : new long[] {5, -5, 0, LMIN, LMAX}) {
            Modrings x = longAndInt(value, 0);
            Check.refused("16 FLOOR of " + value + " by 0", x, () -> x.floorInt(1, 2, false));
            Check.refused("16 REST of " + value + " by 0", x, () -> x.floorInt(1, 2, true));
        }
    }

    static void floorIntLooksAtTheIntAlone() {
        Modrings x = Made.longs(9, 0);
        x.put(INT, 1, 0, 4);
        Check.becomes("16 the LONG of that number is 0, the INT is not", x, LONG, 0, 2, () -> x.floorInt(0, 1, false));
        Modrings y = Made.longs(9, 4);
        Check.refused("16 the INT of that number is 0, the LONG is not", y, () -> y.floorInt(0, 1, false));
    }

    static void towardsByZero() {
        for (boolean isLong : Made.KINDS) {
            for (long value : new long[] {5, -5, 0, Made.least(isLong), Made.greatest(isLong)}) {
                Modrings x = Made.numbers(isLong, value, 0);
                Check.refused("17 quotient of " + value + " by 0", x, () -> x.towards(isLong, 0, 1, false));
                Check.refused("17 rest of " + value + " by 0", x, () -> x.towards(isLong, 0, 1, true));
            }
        }
    }

    // ---- atOnce

    static void atOnceBeyondTheBounds() {
        int[][] divisors = {
            {IMAX, IMAX, IMAX}, {IMAX, IMAX, 3}, {3, IMAX, IMAX}, {IMAX, 3, IMAX},
            // 2^63, and then some that go round to what is above 0, or to 0
            {1 << 21, 1 << 21, 1 << 21}, {1 << 30, 1 << 30, 8}, {1 << 30, 1 << 30, 16}, {1 << 30, 1 << 30, 17},
        };
        for (int[] by : divisors) {
            for (long value : new long[] {0, -1, LMIN, LMAX}) {
                Modrings x = Made.longs(1, value);
                String what = "20 " + value + " by " + by[0] + ", " + by[1] + " and " + by[2];
                Check.refused(what, x, () -> x.atOnce(1, by[0], by[1], by[2]));
            }
        }
    }

    private static void atOnceWithin(long value, int a, int b, int c, long want) {
        Modrings x = Made.longs(1, value);
        String what = "20 " + value + " by " + a + ", " + b + " and " + c;
        Check.becomes(what, x, LONG, 1, want, () -> x.atOnce(1, a, b, c));
    }

    static void atOnceAtTheBounds() {
        // 218934409 * 859764727 * 49 = 2^63 - 1
        atOnceWithin(LMAX, 218934409, 859764727, 49, 1);
        atOnceWithin(LMAX - 1, 218934409, 859764727, 49, 0);
        atOnceWithin(-LMAX, 218934409, 859764727, 49, -1);
        atOnceWithin(LMIN, 218934409, 859764727, 49, -2);
        atOnceWithin(LMAX, IMAX, IMAX, 2, 1);
        atOnceWithin(LMIN, IMAX, 2, IMAX, -2);
        atOnceWithin(LMIN, 1 << 30, 1 << 30, 4, -2);
        atOnceWithin(LMIN, 1, 1, 1, LMIN);
        atOnceWithin(0, IMAX, IMAX, 2, 0);
    }

    // ---- RINGS

    static void inverseOfNone() {
        int[][] none = {{12, 4}, {12, 0}, {12, 6}, {12, 9}, {-12, -2}, {-12, 0}, {7, 0}, {2, 0}, {-2, 0},
            {IMAX, 0}, {IMIN, 0}, {IMIN, -2}, {IMIN, 1 << 30}, {1 << 30, 1 << 29}};
        for (int[] one : none) {
            Modrings x = Made.ring(one[0], 1, one[1]);
            Check.refused("33 " + one[1] + " by " + one[0], x, () -> x.inverse(0, 1));
            Check.asks("34 isUnit tells no REFUSED", x, false, () -> x.isUnit(0, 1));
        }
    }

    static void noNumberThatTwoRingsAgreeOn() {
        int[][] apart = {{10, 3, -12, 8}, {10, 3, 4, 2}, {4, 0, 6, 1}, {-4, -3, -6, -2}, {IMIN, -1, 2, 0},
            {2, 0, IMIN, -1}, {IMIN, -1, IMIN, -2}, {IMAX, 1, IMAX, 2}, {IMAX, 1, -IMAX, -1}, {2, 0, 2, 1}};
        for (int[] one : apart) {
            Modrings x = Made.twoRings(one[0], one[1], one[2], one[3]);
            Made.putLong(x, 2, 77);
            String what = "38 " + one[1] + " by " + one[0] + " and " + one[3] + " by " + one[2];
            Check.refused(what, x, () -> x.together(2, 0, 0, 1, 0));
            Check.refused(what + ", other way", x, () -> x.together(2, 1, 0, 0, 0));
        }
    }

    static void noNumberThatTwoSlotsOfOneRingAgreeOn() {
        Modrings x = Made.ring(7, 3, 4);
        Check.refused("38 3 and 4 by 7", x, () -> x.together(0, 0, 0, 0, 1));
    }

    // ---- what is counted, and what is not REFUSED

    static void eachIsCounted() {
        Modrings x = Made.busy();
        int before = x.house(0);
        x.narrow(0, 0);
        x.exact(LONG, 0, 0, SUM);
        x.alone(LONG, 0, 0);
        x.timesInt(0, 0);
        x.floor(INT, 0, 2, false);
        x.floorInt(0, 2, true);
        x.towards(LONG, 0, 2, true);
        x.atOnce(0, IMAX, IMAX, IMAX);
        x.inverse(0, 1);
        x.together(0, 1, 0, 2, 1);
        Check.same("40 ten methods told REFUSED", x.house(0) - before, 10);
    }

    static void theSameAgainIsCountedAgain() {
        Modrings x = Made.longs(5, 0);
        for (int times = 1; times <= 40; times++) {
            x.floor(LONG, 0, 1, false);
            Check.same("40 how often REFUSED was told", x.house(0), times);
        }
    }

    static void whatIsBeyondButGoesRoundIsNotRefused() {
        for (boolean isLong : Made.KINDS) {
            Modrings x = Made.numbers(isLong, Made.least(isLong), -1, Made.greatest(isLong), 2);
            x.round(isLong, 0, 1, SUM);
            x.round(isLong, 2, 1, LESS);
            x.round(isLong, 2, 3, PRODUCT);
            Made.set(x, isLong, 0, Made.least(isLong));
            x.abs(isLong, 0);
            x.floor(isLong, 0, 1, false);
            x.towards(isLong, 0, 1, false);
            x.quotient(isLong, 0, -1);
            Check.same("40 nothing was REFUSED", x.house(0), 0);
        }
    }

    static void anExceptionIsNotCountedAsRefused() {
        Modrings x = Made.busy();
        Check.noArgument("6 what", x, () -> x.exact(INT, 0, 0, 3));
        Check.noArgument("25 by 0", x, () -> x.rest(INT, 0, 0));
        Check.noIndex("5 narrow", x, () -> x.narrow(4, 0));
        Check.same("40 as in busy()", x.house(0), 1);
    }

    public static void main(String[] args) {
        Check.run(RefusedTest.class);
    }
}
