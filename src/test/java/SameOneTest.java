/** "Where two are named, they ... may be the same one": the same number, SLOT or RING named twice. */
public final class SameOneTest {
    private static final boolean LONG = Made.LONG;
    private static final int IMIN = Made.IMIN;
    private static final int IMAX = Made.IMAX;
    private static final long LMIN = Made.LMIN;
    private static final long LMAX = Made.LMAX;

    private static Modrings holding(boolean isLong, long value) {
        Modrings x = Made.busy();
        Made.set(x, isLong, 1, value);
        return x;
    }

    static void copyOfItself() {
        for (boolean isLong : Made.KINDS) {
            Modrings x = holding(isLong, -8);
            Check.becomes("3 copy", x, isLong, 1, -8, () -> x.copy(isLong, 1, 1));
        }
    }

    static void widenAndNarrowBetweenTheSameNumbersOfTwoKinds() {
        Modrings x = holding(false, IMIN);
        Check.becomes("4 widen 1 from 1", x, LONG, 1, IMIN, () -> x.widen(1, 1));
        Made.putLong(x, 1, IMAX);
        Check.becomes("5 narrow 1 from 1", x, false, 1, IMAX, () -> x.narrow(1, 1));
    }

    static void sumWithItself() {
        for (boolean isLong : Made.KINDS) {
            long half = Made.greatest(isLong) / 2;
            Modrings x = holding(isLong, half);
            Check.asks("7 just fits", x, true, () -> x.fits(isLong, 1, 1, 0));
            Check.becomes("6 just fits", x, isLong, 1, 2 * half, () -> x.exact(isLong, 1, 1, 0));
            Modrings y = holding(isLong, half + 1);
            Check.asks("7 beyond", y, false, () -> y.fits(isLong, 1, 1, 0));
            Check.refused("6 beyond", y, () -> y.exact(isLong, 1, 1, 0));
            Check.becomes("12 goes round", y, isLong, 1, Made.least(isLong), () -> y.round(isLong, 1, 1, 0));
        }
    }

    static void itLessItself() {
        for (boolean isLong : Made.KINDS) {
            for (long value : new long[] {5, Made.least(isLong), Made.greatest(isLong)}) {
                Modrings x = holding(isLong, value);
                Check.asks("7 less", x, true, () -> x.fits(isLong, 1, 1, 1));
                Check.becomes("6 less", x, isLong, 1, 0, () -> x.exact(isLong, 1, 1, 1));
                Made.set(x, isLong, 1, value);
                Check.becomes("12 less", x, isLong, 1, 0, () -> x.round(isLong, 1, 1, 1));
            }
        }
    }

    static void productWithItself() {
        for (boolean isLong : Made.KINDS) {
            Modrings x = holding(isLong, -9);
            Check.asks("7 product", x, true, () -> x.fits(isLong, 1, 1, 2));
            Check.becomes("6 product", x, isLong, 1, 81, () -> x.exact(isLong, 1, 1, 2));
            Modrings y = holding(isLong, Made.least(isLong));
            Check.asks("7 beyond", y, false, () -> y.fits(isLong, 1, 1, 2));
            Check.refused("6 beyond", y, () -> y.exact(isLong, 1, 1, 2));
            Check.becomes("12 goes round", y, isLong, 1, 0, () -> y.round(isLong, 1, 1, 2));
        }
    }

    static void timesIntAndFloorIntOfTheSameNumbersOfTwoKinds() {
        Modrings x = Made.busy();
        Check.becomes("9 timesInt 1 from 1", x, LONG, 1, 42, () -> x.timesInt(1, 1));
        Check.becomes("16 floorInt 1 from 1", x, LONG, 1, -7, () -> x.floorInt(1, 1, false));
        Check.becomes("16 its REST", x, LONG, 1, -1, () -> x.floorInt(1, 1, true));
    }

    static void fullOfOneIntTwice() {
        Modrings x = holding(false, IMIN);
        Check.becomes("10 full", x, LONG, 1, 1L << 62, () -> x.full(1, 1, 1));
    }

    static void highOfOneLongThreeTimes() {
        Modrings x = holding(LONG, LMIN);
        Check.becomes("11 high of the least", x, LONG, 1, 1L << 62, () -> x.high(1, 1, 1));
        Made.putLong(x, 1, LMAX);
        Check.becomes("11 high of the greatest", x, LONG, 1, (1L << 62) - 1, () -> x.high(1, 1, 1));
        Made.putLong(x, 1, -1);
        Check.becomes("11 high of -1", x, LONG, 1, 0, () -> x.high(1, 1, 1));
    }

    static void highIntoOneOfBoth() {
        Modrings x = holding(LONG, LMIN);
        Check.becomes("11 high into a", x, LONG, 1, -1L << 39, () -> x.high(1, 1, 3));
        Made.putLong(x, 1, LMIN);
        Check.becomes("11 high into b", x, LONG, 1, -1L << 39, () -> x.high(1, 3, 1));
    }

    static void extremeOfItself() {
        for (boolean isLong : Made.KINDS) {
            for (boolean isGreater : new boolean[] {false, true}) {
                Modrings x = holding(isLong, -3);
                Check.puts("14 extreme", x, isLong, 1, -3, 0, () -> x.extreme(isLong, 1, 1, isGreater));
            }
        }
    }

    static void divisionByItself() {
        for (boolean isLong : Made.KINDS) {
            for (long value : new long[] {1, -1, 6, -6, Made.least(isLong), Made.greatest(isLong)}) {
                Modrings x = holding(isLong, value);
                Check.becomes("15 FLOOR", x, isLong, 1, 1, () -> x.floor(isLong, 1, 1, false));
                Made.set(x, isLong, 1, value);
                Check.becomes("15 REST", x, isLong, 1, 0, () -> x.floor(isLong, 1, 1, true));
                Made.set(x, isLong, 1, value);
                Check.becomes("17 TOWARDS 0", x, isLong, 1, 1, () -> x.towards(isLong, 1, 1, false));
                Made.set(x, isLong, 1, value);
                Check.becomes("17 its rest", x, isLong, 1, 0, () -> x.towards(isLong, 1, 1, true));
            }
        }
    }

    static void zeroByItselfIsRefused() {
        for (boolean isLong : Made.KINDS) {
            for (boolean isRest : new boolean[] {false, true}) {
                Modrings x = Made.busy();
                Check.refused("15 0 by itself", x, () -> x.floor(isLong, 2, 2, isRest));
                Check.refused("17 0 by itself", x, () -> x.towards(isLong, 2, 2, isRest));
            }
        }
    }

    static void averageWithItself() {
        for (boolean isLong : Made.KINDS) {
            for (boolean isUp : new boolean[] {false, true}) {
                for (long value : new long[] {-3, Made.least(isLong), Made.greatest(isLong)}) {
                    Modrings x = holding(isLong, value);
                    Check.becomes("18 average", x, isLong, 1, value, () -> x.average(isLong, 1, 1, isUp));
                }
            }
        }
    }

    static void distanceCompareAndAlikeOfItself() {
        for (boolean isLong : Made.KINDS) {
            for (long value : new long[] {0, Made.least(isLong), Made.greatest(isLong)}) {
                Modrings x = holding(isLong, value);
                Check.asks("21 distance", x, "0", () -> x.distance(isLong, 1, 1));
                Check.asks("22 compare", x, 0, () -> x.compare(isLong, 1, 1));
                Check.asks("37 areAlike", x, true, () -> x.areAlike(1, isLong, 1, 1));
            }
        }
    }

    static void plusOfOneSlotTwice() {
        Modrings x = Made.busy();
        Check.turns("30 sum", x, 0, "7: 3 0 5 1", 5, () -> x.plus(0, 2, 2, false));
        Check.turns("30 less", x, 0, "7: 3 0 0 1", 0, () -> x.plus(0, 2, 2, true));
        Check.turns("30 sum by a MODULUS below 0", x, 2, "-12: -10 -4 0 -1", -10, () -> x.plus(2, 0, 0, false));
        Modrings y = Made.ring(IMIN, IMIN + 1);
        Check.turns("30 sum at the bounds", y, 0, "-2147483648: -2147483646 0 0 0", IMIN + 2,
                () -> y.plus(0, 0, 0, false));
        Check.turns("30 less at the bounds", y, 0, "-2147483648: 0 0 0 0", 0, () -> y.plus(0, 0, 0, true));
    }

    static void timesOfOneSlotTwice() {
        Modrings x = Made.busy();
        Check.turns("31 product", x, 1, "10: 3 6 0 9", 6, () -> x.times(1, 1, 1));
        Check.turns("31 product by a MODULUS below 0", x, 2, "-12: -11 -4 0 -1", -11, () -> x.times(2, 0, 0));
        Modrings y = Made.ring(IMIN, IMIN + 1);
        Check.turns("31 product at the bounds", y, 0, "-2147483648: -2147483647 0 0 0", IMIN + 1,
                () -> y.times(0, 0, 0));
    }

    static void togetherOfOneSlotTwice() {
        Modrings x = Made.busy();
        Check.becomes("38 above 0", x, LONG, 1, 6, () -> x.together(1, 0, 2, 0, 2));
        Check.becomes("38 below 0", x, LONG, 1, 7, () -> x.together(1, 2, 0, 2, 0));
        Modrings y = Made.ring(IMIN, IMIN + 1);
        Check.becomes("38 at the bounds", y, LONG, 1, 1, () -> y.together(1, 0, 0, 0, 0));
    }

    static void togetherOfTwoSlotsOfOneRing() {
        Modrings x = Made.ring(-9, 4, 4, 5);
        Check.becomes("38 they agree", x, LONG, 1, 4, () -> x.together(1, 0, 0, 0, 1));
        Check.refused("38 they do not", x, () -> x.together(1, 0, 0, 0, 2));
    }

    static void commonOfOneRingTwice() {
        for (int modulus : new int[] {1, -1, 7, -12, IMIN, IMAX}) {
            Modrings x = Made.ring(modulus);
            String size = Long.toString(Math.abs((long) modulus));
            Check.asks("39 divisor", x, size, () -> x.common(0, 0, false));
            Check.asks("39 multiple", x, size, () -> x.common(0, 0, true));
        }
    }

    public static void main(String[] args) {
        Check.run(SameOneTest.class);
    }
}
