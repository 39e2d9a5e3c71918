/**
 * The sentences of promises 1 to 26 that name an edge, but for what is REFUSED (RefusedTest) and what
 * throws (ThrowsTest). Check.becomes() also looks that the call tells the SIGN and changes nothing else.
 */
public final class NumberEdgeTest {
    private static final boolean INT = Made.INT;
    private static final boolean LONG = Made.LONG;
    private static final int IMIN = Made.IMIN;
    private static final int IMAX = Made.IMAX;
    private static final long LMIN = Made.LMIN;
    private static final long LMAX = Made.LMAX;
    private static final int SUM = 0;
    private static final int LESS = 1;
    private static final int PRODUCT = 2;

    // ---- 1: a new object

    static void allNumbersAreZeroAtFirst() {
        Modrings x = new Modrings();
        for (boolean isLong : Made.KINDS) {
            for (int k = 0; k < 4; k++) {
                Check.same("1 number " + k, x.text(isLong, k), "0");
                Check.same("1 number " + k, x.ofNumber(isLong, k, 0), 0);
            }
        }
    }

    static void ringsAtFirst() {
        Modrings x = new Modrings();
        Check.same("1 RING 0", x.ringText(0), "7: 0 0 0 0");
        Check.same("1 RING 1", x.ringText(1), "10: 0 0 0 0");
        Check.same("1 RING 2", x.ringText(2), "-12: 0 0 0 0");
    }

    static void nothingIsCountedAtFirst() {
        Modrings x = new Modrings();
        Check.same("1 REFUSED", x.house(0), 0);
        Check.same("1 knocks", x.house(1), 0);
    }

    static void twoObjectsHaveNothingInCommon() {
        String[] fresh = Made.state(new Modrings());
        Modrings x = new Modrings();
        Made.busy();
        Check.same("1 an older one", String.join(",", Made.state(x)), String.join(",", fresh));
        Check.same("1 a newer one", String.join(",", Made.state(new Modrings())), String.join(",", fresh));
    }

    // ---- 2: put

    static void putOfAnIntDoesNotLookAtHigh() {
        for (int high : new int[] {0, 1, -1, IMIN, IMAX}) {
            for (int low : new int[] {0, 5, -5, IMIN, IMAX}) {
                Modrings x = Made.busy();
                Check.becomes("2 " + low + " with high " + high, x, INT, 1, low, () -> x.put(INT, 1, high, low));
            }
        }
    }

    private static void putLongCase(int high, int low, long want) {
        Modrings x = Made.busy();
        Check.becomes("2 high " + high + " and low " + low, x, LONG, 3, want, () -> x.put(LONG, 3, high, low));
    }

    static void lowBelowZeroIsTakenMore() {
        putLongCase(0, -1, 4294967295L);
        putLongCase(0, IMIN, 2147483648L);
        putLongCase(-1, -1, -1);
        putLongCase(-1, IMIN, IMIN);
        putLongCase(1, -1, 8589934591L);
        putLongCase(IMAX, -1, LMAX);
    }

    static void lowFromZeroOnIsTakenAsItIs() {
        putLongCase(0, 0, 0);
        putLongCase(0, IMAX, IMAX);
        putLongCase(-1, 0, -4294967296L);
        putLongCase(-1, IMAX, -2147483649L);
        putLongCase(1, 0, 4294967296L);
        putLongCase(IMIN, 0, LMIN);
        putLongCase(IMIN, 1, LMIN + 1);
    }

    // ---- 3 and 4: copy and widen

    static void copyOfTheBounds() {
        for (boolean isLong : Made.KINDS) {
            for (long value : new long[] {Made.least(isLong), Made.greatest(isLong), 0, -1}) {
                Modrings x = Made.busy();
                Made.set(x, isLong, 3, value);
                Check.becomes("3 " + value, x, isLong, 0, value, () -> x.copy(isLong, 0, 3));
            }
        }
    }

    static void widenOfTheBounds() {
        for (int value : new int[] {IMIN, IMAX, 0, -1}) {
            Modrings x = Made.busy();
            x.put(INT, 3, 0, value);
            Check.becomes("4 " + value, x, LONG, 0, value, () -> x.widen(0, 3));
        }
    }

    // ---- 10 and 11: products with two halves

    static void fullOfTheBounds() {
        long[][] cases = {{IMIN, IMIN, 1L << 62}, {IMIN, IMAX, -4611686016279904256L}, {IMAX, IMAX, 4611686014132420609L},
            {IMIN, -1, 1L << 31}, {IMIN, 1, IMIN}, {IMIN, 0, 0}, {-1, -1, 1}, {65536, 65536, 1L << 32}};
        for (long[] one : cases) {
            Modrings x = Made.ints(one[0], one[1]);
            Check.becomes("10 " + one[0] + " and " + one[1], x, LONG, 2, one[2], () -> x.full(2, 0, 1));
            Check.becomes("10 " + one[1] + " and " + one[0], x, LONG, 3, one[2], () -> x.full(3, 1, 0));
        }
    }

    static void highOfTheBounds() {
        long[][] cases = {{LMIN, LMIN, 1L << 62}, {LMIN, LMAX, -(1L << 62)}, {LMAX, LMAX, (1L << 62) - 1},
            {LMIN, -1, 0}, {LMIN, 1, -1}, {LMIN, 2, -1}, {LMAX, 2, 0}, {LMAX, -1, -1}, {LMIN, 0, 0}, {LMAX, 4, 1},
            {-1, -1, 0}, {1, -1, -1}, {1L << 32, 1L << 32, 1}, {(1L << 32) - 1, (1L << 32) - 1, 0},
            {(1L << 32) - 1, (1L << 32) + 1, 0}, {-(1L << 32), 1L << 32, -1}, {-(1L << 32) - 1, 1L << 32, -2}};
        for (long[] one : cases) {
            Modrings x = Made.longs(one[0], one[1]);
            Check.becomes("11 " + one[0] + " and " + one[1], x, LONG, 2, one[2], () -> x.high(2, 0, 1));
            Check.becomes("11 " + one[1] + " and " + one[0], x, LONG, 3, one[2], () -> x.high(3, 1, 0));
        }
    }

    // ---- 12: it GOES ROUND

    private static void rounds(boolean isLong, long a, long b, int what, long want) {
        Modrings x = Made.numbers(isLong, 3, a, b);
        String sentence = "12 " + a + " and " + b + " by " + what;
        Check.becomes(sentence, x, isLong, 1, want, () -> x.round(isLong, 1, 2, what));
    }

    static void sumGoesRound() {
        for (boolean isLong : Made.KINDS) {
            long least = Made.least(isLong);
            long greatest = Made.greatest(isLong);
            rounds(isLong, greatest, 1, SUM, least);
            rounds(isLong, greatest, greatest, SUM, -2);
            rounds(isLong, least, -1, SUM, greatest);
            rounds(isLong, least, least, SUM, 0);
            rounds(isLong, least, greatest, SUM, -1);
            rounds(isLong, greatest, 0, SUM, greatest);
        }
    }

    static void differenceGoesRound() {
        for (boolean isLong : Made.KINDS) {
            long least = Made.least(isLong);
            long greatest = Made.greatest(isLong);
            rounds(isLong, least, 1, LESS, greatest);
            rounds(isLong, least, greatest, LESS, 1);
            rounds(isLong, greatest, least, LESS, -1);
            rounds(isLong, greatest, -1, LESS, least);
            rounds(isLong, 0, least, LESS, least);
            rounds(isLong, -1, least, LESS, greatest);
        }
    }

    static void productGoesRound() {
        for (boolean isLong : Made.KINDS) {
            long least = Made.least(isLong);
            long greatest = Made.greatest(isLong);
            rounds(isLong, least, -1, PRODUCT, least);
            rounds(isLong, least, least, PRODUCT, 0);
            rounds(isLong, least, greatest, PRODUCT, least);
            rounds(isLong, greatest, greatest, PRODUCT, 1);
            rounds(isLong, greatest, 2, PRODUCT, -2);
            rounds(isLong, greatest, -1, PRODUCT, -greatest);
        }
        rounds(INT, 65536, 65536, PRODUCT, 0);
        rounds(INT, 46341, 46341, PRODUCT, -2147479015);
        rounds(LONG, 1L << 32, 1L << 32, PRODUCT, 0);
        rounds(LONG, 65536, 65536, PRODUCT, 4294967296L);
    }

    // ---- 13: abs

    static void absOfTheLeastGoesRound() {
        for (boolean isLong : Made.KINDS) {
            Modrings x = Made.numbers(isLong, 1, Made.least(isLong));
            Check.becomes("13 the least", x, isLong, 1, Made.least(isLong), () -> x.abs(isLong, 1));
        }
    }

    static void absOfTheRest() {
        for (boolean isLong : Made.KINDS) {
            long greatest = Made.greatest(isLong);
            long[][] cases = {{-greatest, greatest}, {greatest, greatest}, {-1, 1}, {1, 1}, {0, 0}};
            for (long[] one : cases) {
                Modrings x = Made.numbers(isLong, 1, one[0]);
                Check.becomes("13 " + one[0], x, isLong, 1, one[1], () -> x.abs(isLong, 1));
            }
        }
        Modrings x = Made.longs(1, IMIN);
        Check.becomes("13 the least INT as a LONG", x, LONG, 1, 1L << 31, () -> x.abs(LONG, 1));
    }

    // ---- 14: extreme

    private static void extremes(boolean isLong, long a, long b) {
        for (boolean isGreater : new boolean[] {true, false}) {
            Modrings x = Made.numbers(isLong, a, b);
            long want = isGreater ? Math.max(a, b) : Math.min(a, b);
            Check.puts("14 " + a + " and " + b + ", " + isGreater, x, isLong, 0, want, want == a ? 0 : 1,
                    () -> x.extreme(isLong, 0, 1, isGreater));
        }
    }

    static void extremeOfTheBounds() {
        for (boolean isLong : Made.KINDS) {
            extremes(isLong, Made.least(isLong), Made.greatest(isLong));
            extremes(isLong, Made.greatest(isLong), Made.least(isLong));
            extremes(isLong, Made.least(isLong), 1);
            extremes(isLong, 1, Made.least(isLong));
            extremes(isLong, Made.greatest(isLong), -1);
            extremes(isLong, -1, Made.greatest(isLong));
            extremes(isLong, -1, 0);
        }
    }

    static void extremeOfTwoThatAreTheSameIsNoChange() {
        for (boolean isLong : Made.KINDS) {
            extremes(isLong, 0, 0);
            extremes(isLong, -7, -7);
            extremes(isLong, Made.least(isLong), Made.least(isLong));
            extremes(isLong, Made.greatest(isLong), Made.greatest(isLong));
        }
    }

    // ---- 15 to 17: FLOOR, its REST, TOWARDS 0 and its rest

    private static void divides(boolean isLong, long a, long b, long[] due) {
        String what = " of " + a + " by " + b;
        Modrings x = Made.numbers(isLong, a, a, b);
        Check.becomes("15 FLOOR" + what, x, isLong, 0, due[0], () -> x.floor(isLong, 0, 2, false));
        Check.becomes("15 REST" + what, x, isLong, 1, due[1], () -> x.floor(isLong, 1, 2, true));
        Modrings y = Made.numbers(isLong, a, a, b);
        Check.becomes("17 TOWARDS 0" + what, y, isLong, 0, due[2], () -> y.towards(isLong, 0, 2, false));
        Check.becomes("17 its rest" + what, y, isLong, 1, due[3], () -> y.towards(isLong, 1, 2, true));
        if (b != (int) b) {
            return;
        }
        if (isLong) {
            Modrings z = Made.longs(a, a);
            z.put(INT, 2, 0, (int) b);
            Check.becomes("16 FLOOR" + what, z, LONG, 0, due[0], () -> z.floorInt(0, 2, false));
            Check.becomes("16 REST" + what, z, LONG, 1, due[1], () -> z.floorInt(1, 2, true));
        }
        Modrings w = Made.numbers(isLong, a);
        Check.asks("25 rest" + what, w, (int) due[1], () -> w.rest(isLong, 0, (int) b));
        Check.asks("26 quotient" + what, w, Long.toString(due[0]), () -> w.quotient(isLong, 0, (int) b));
    }

    private static void divides(long a, long b, long... due) {
        divides(INT, a, b, due);
        divides(LONG, a, b, due);
    }

    static void divisionsOfFourSigns() {
        divides(7, 2, 3, 1, 3, 1);
        divides(-7, 2, -4, 1, -3, -1);
        divides(7, -2, -4, -1, -3, 1);
        divides(-7, -2, 3, -1, 3, -1);
    }

    static void divisionsThatComeOut() {
        divides(6, 2, 3, 0, 3, 0);
        divides(-6, 2, -3, 0, -3, 0);
        divides(6, -2, -3, 0, -3, 0);
        divides(-6, -2, 3, 0, 3, 0);
        divides(0, 5, 0, 0, 0, 0);
        divides(0, -5, 0, 0, 0, 0);
    }

    static void divisionsOfWhatIsNearerToZero() {
        divides(1, 5, 0, 1, 0, 1);
        divides(-1, 5, -1, 4, 0, -1);
        divides(1, -5, -1, -4, 0, 1);
        divides(-1, -5, 0, -1, 0, -1);
    }

    static void theLeastByMinusOneGoesRound() {
        divides(INT, IMIN, -1, new long[] {IMIN, 0, IMIN, 0});
        divides(LONG, LMIN, -1, new long[] {LMIN, 0, LMIN, 0});
    }

    static void theLeastIntAsALongByMinusOneDoesNot() {
        divides(LONG, IMIN, -1, new long[] {1L << 31, 0, 1L << 31, 0});
    }

    static void divisionsOfTheLeast() {
        divides(INT, IMIN, 1, new long[] {IMIN, 0, IMIN, 0});
        divides(LONG, LMIN, 1, new long[] {LMIN, 0, LMIN, 0});
        divides(INT, IMIN, IMIN, new long[] {1, 0, 1, 0});
        divides(LONG, LMIN, LMIN, new long[] {1, 0, 1, 0});
        divides(INT, IMIN, IMAX, new long[] {-2, IMAX - 1, -1, -1});
        divides(LONG, LMIN, LMAX, new long[] {-2, LMAX - 1, -1, -1});
        divides(INT, IMIN, 3, new long[] {-715827883, 1, -715827882, -2});
        divides(LONG, LMIN, IMIN, new long[] {1L << 32, 0, 1L << 32, 0});
        divides(LONG, LMIN, IMAX, new long[] {-4294967299L, 2147483645, -4294967298L, -2});
    }

    static void divisionsOfTheGreatest() {
        divides(INT, IMAX, -1, new long[] {-IMAX, 0, -IMAX, 0});
        divides(LONG, LMAX, -1, new long[] {-LMAX, 0, -LMAX, 0});
        divides(INT, IMAX, IMIN, new long[] {-1, -1, 0, IMAX});
        divides(LONG, LMAX, LMIN, new long[] {-1, -1, 0, LMAX});
        divides(LONG, LMAX, IMIN, new long[] {-4294967296L, -1, -4294967295L, IMAX});
        divides(LONG, LMAX, IMAX, new long[] {4294967298L, 1, 4294967298L, 1});
    }

    static void divisionsByTheLeast() {
        divides(1, IMIN, -1, IMIN + 1, 0, 1);
        divides(-1, IMIN, 0, -1, 0, -1);
        divides(0, IMIN, 0, 0, 0, 0);
        divides(LONG, 1, LMIN, new long[] {-1, LMIN + 1, 0, 1});
        divides(LONG, -1, LMIN, new long[] {0, -1, 0, -1});
    }

    // ---- 18: average

    private static void averages(boolean isLong, long a, long b, long down, long up) {
        for (boolean isUp : new boolean[] {false, true}) {
            Modrings x = Made.numbers(isLong, a, b);
            long want = isUp ? up : down;
            String what = "18 " + a + " and " + b + ", up " + isUp;
            Check.becomes(what, x, isLong, 0, want, () -> x.average(isLong, 0, 1, isUp));
            Made.set(x, isLong, 0, a);
            Check.becomes(what + ", other way", x, isLong, 1, want, () -> x.average(isLong, 1, 0, isUp));
        }
    }

    static void averageThatIsAWholeNumber() {
        for (boolean isLong : Made.KINDS) {
            averages(isLong, 4, 8, 6, 6);
            averages(isLong, -4, 4, 0, 0);
            averages(isLong, -3, -5, -4, -4);
            averages(isLong, 7, 7, 7, 7);
        }
    }

    static void averageThatIsNoWholeNumber() {
        for (boolean isLong : Made.KINDS) {
            averages(isLong, 4, 9, 6, 7);
            averages(isLong, -4, -9, -7, -6);
            averages(isLong, 0, -1, -1, 0);
            averages(isLong, 0, 1, 0, 1);
            averages(isLong, -4, 5, 0, 1);
            averages(isLong, 4, -5, -1, 0);
        }
    }

    static void averageOfASumBeyondTheBounds() {
        for (boolean isLong : Made.KINDS) {
            long least = Made.least(isLong);
            long greatest = Made.greatest(isLong);
            averages(isLong, greatest, greatest, greatest, greatest);
            averages(isLong, greatest, greatest - 1, greatest - 1, greatest);
            averages(isLong, greatest, 1, greatest / 2 + 1, greatest / 2 + 1);
            averages(isLong, least, least, least, least);
            averages(isLong, least, least + 1, least, least + 1);
            averages(isLong, least, -1, least / 2 - 1, least / 2);
            averages(isLong, least, greatest, -1, 0);
        }
    }

    // ---- 19: chain

    private static void chains(long value, int a, int b, int c, long want) {
        Modrings x = Made.longs(1, value);
        String what = "19 " + value + " by " + a + ", " + b + " and " + c;
        Check.becomes(what, x, LONG, 1, want, () -> x.chain(1, a, b, c));
    }

    static void chainByOne() {
        chains(LMIN, 1, 1, 1, LMIN);
        chains(LMAX, 1, 1, 1, LMAX);
        chains(0, 1, 1, 1, 0);
    }

    static void chainByTheGreatest() {
        chains(LMAX, IMAX, IMAX, IMAX, 0);
        chains(LMIN, IMAX, IMAX, IMAX, -1);
        chains(LMIN, IMAX, IMAX, 1, -3);
        chains(LMAX, IMAX, 1, IMAX, 2);
        chains(-1, IMAX, IMAX, IMAX, -1);
    }

    static void chainIsFloorEachTime() {
        chains(-1, 2, 3, 5, -1);
        chains(-30, 2, 3, 5, -1);
        chains(-31, 2, 3, 5, -2);
        chains(29, 2, 3, 5, 0);
        chains(30, 2, 3, 5, 1);
    }

    // ---- 21 and 22: distance and compare

    private static void apart(boolean isLong, long a, long b, String want, int order) {
        Modrings x = Made.numbers(isLong, a, b);
        String what = a + " and " + b;
        Check.asks("21 " + what, x, want, () -> x.distance(isLong, 0, 1));
        Check.asks("21 other way, " + what, x, want, () -> x.distance(isLong, 1, 0));
        Check.asks("22 " + what, x, order, () -> x.compare(isLong, 0, 1));
        Check.asks("22 other way, " + what, x, -order, () -> x.compare(isLong, 1, 0));
    }

    static void distanceBeyondTheBounds() {
        apart(INT, IMIN, IMAX, "4294967295", -1);
        apart(INT, IMIN, 0, "2147483648", -1);
        apart(INT, IMAX, -1, "2147483648", 1);
        apart(LONG, LMIN, LMAX, "18446744073709551615", -1);
        apart(LONG, LMIN, LMAX - 5, "18446744073709551610", -1);
        apart(LONG, LMIN, 0, "9223372036854775808", -1);
        apart(LONG, LMAX, -1, "9223372036854775808", 1);
    }

    static void distanceWithinTheBounds() {
        apart(LONG, LMIN, -1, "9223372036854775807", -1);
        apart(LONG, LMAX, 0, "9223372036854775807", 1);
        for (boolean isLong : Made.KINDS) {
            apart(isLong, -5, 4, "9", -1);
            apart(isLong, 5, -5, "10", 1);
            apart(isLong, Made.least(isLong), Made.least(isLong) + 1, "1", -1);
        }
    }

    static void distanceOfTwoThatAreTheSame() {
        for (boolean isLong : Made.KINDS) {
            apart(isLong, 0, 0, "0", 0);
            apart(isLong, Made.least(isLong), Made.least(isLong), "0", 0);
            apart(isLong, Made.greatest(isLong), Made.greatest(isLong), "0", 0);
        }
    }

    // ---- 23 and 24: text and ofNumber

    private static void told(boolean isLong, long value, int round, int upper, int edge, int signs) {
        Modrings x = Made.numbers(isLong, 8, value);
        String what = " of " + value;
        Check.asks("23 text" + what, x, Long.toString(value), () -> x.text(isLong, 1));
        Check.asks("24 SIGN" + what, x, Long.signum(value), () -> x.ofNumber(isLong, 1, 0));
        Check.asks("24 by INTS" + what, x, round, () -> x.ofNumber(isLong, 1, 1));
        Check.asks("24 upper half" + what, x, upper, () -> x.ofNumber(isLong, 1, 2));
        Check.asks("24 edge" + what, x, edge, () -> x.ofNumber(isLong, 1, 3));
        Check.asks("24 signs" + what, x, signs, () -> x.ofNumber(isLong, 1, 4));
    }

    static void toldOfZero() {
        told(INT, 0, 0, 0, 0, 1);
        told(LONG, 0, 0, 0, 0, 1);
    }

    static void toldOfTheBoundsOfInts() {
        told(INT, IMIN, IMIN, -1, -1, 11);
        told(INT, IMAX, IMAX, 0, 1, 10);
        told(INT, IMIN + 1, IMIN + 1, -1, 0, 11);
        told(INT, IMAX - 1, IMAX - 1, 0, 0, 10);
    }

    static void toldOfTheBoundsOfLongs() {
        told(LONG, LMIN, 0, IMIN, -1, 20);
        told(LONG, LMAX, -1, IMAX, 1, 19);
        told(LONG, LMIN + 1, 1, IMIN, 0, 20);
        told(LONG, LMAX - 1, -2, IMAX, 0, 19);
    }

    static void aLongAtTheBoundsOfIntsIsNotAtItsOwn() {
        told(LONG, IMIN, IMIN, -1, 0, 11);
        told(LONG, IMAX, IMAX, 0, 0, 10);
    }

    static void aLongBeyondTheBoundsOfIntsGoesRound() {
        told(LONG, IMAX + 1L, IMIN, 0, 0, 10);
        told(LONG, IMIN - 1L, IMAX, -1, 0, 11);
        told(LONG, 4294967295L, -1, 0, 0, 10);
        told(LONG, 4294967296L, 0, 1, 0, 10);
        told(LONG, -4294967296L, 0, -1, 0, 11);
        told(LONG, -4294967297L, -1, -2, 0, 11);
    }

    static void signsWhereTheirNumberChanges() {
        for (boolean isLong : Made.KINDS) {
            told(isLong, 9, 9, 0, 0, 1);
            told(isLong, 10, 10, 0, 0, 2);
            told(isLong, -1, -1, -1, 0, 2);
            told(isLong, -9, -9, -1, 0, 2);
            told(isLong, -10, -10, -1, 0, 3);
            told(isLong, 999999999, 999999999, 0, 0, 9);
            told(isLong, 1000000000, 1000000000, 0, 0, 10);
        }
        told(LONG, 999999999999999999L, -1486618625, 232830643, 0, 18);
        told(LONG, 1000000000000000000L, -1486618624, 232830643, 0, 19);
    }

    public static void main(String[] args) {
        Check.run(NumberEdgeTest.class);
    }
}
