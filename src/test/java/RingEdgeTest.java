/**
 * The sentences of promises 27 to 39 that name an edge, but for what is REFUSED (RefusedTest) and what
 * throws (ThrowsTest). Check.turns(), becomes() and asks() also look that nothing else changes.
 */
public final class RingEdgeTest {
    private static final boolean INT = Made.INT;
    private static final boolean LONG = Made.LONG;
    private static final int IMIN = Made.IMIN;
    private static final int IMAX = Made.IMAX;
    private static final long LMIN = Made.LMIN;
    private static final long LMAX = Made.LMAX;

    private static String line(int modulus, int... residues) {
        return modulus + ": " + residues[0] + " " + residues[1] + " " + residues[2] + " " + residues[3];
    }

    // ---- 27: modulus

    /** A RING goes from one MODULUS to another one, and what its SLOTS held becomes that. */
    private static void turnsTo(int before, int[] held, int modulus, int... want) {
        Modrings x = Made.busy();
        x.modulus(1, before);
        Made.fill(x, 1, held);
        Check.turns("27 " + before + " to " + modulus, x, 1, line(modulus, want), before, () -> x.modulus(1, modulus));
    }

    static void eachResidueBecomesItsRest() {
        turnsTo(100, new int[] {7, 12, 99, 0}, 10, 7, 2, 9, 0);
        turnsTo(100, new int[] {7, 12, 99, 0}, 1000, 7, 12, 99, 0);
    }

    static void modulusFromAboveZeroToBelow() {
        turnsTo(100, new int[] {7, 12, 99, 0}, -10, -3, -8, -1, 0);
        turnsTo(100, new int[] {7, 12, 99, 0}, -100, -93, -88, -1, 0);
    }

    static void modulusFromBelowZeroToAbove() {
        turnsTo(-100, new int[] {-7, -12, -99, 0}, 10, 3, 8, 1, 0);
        turnsTo(-100, new int[] {-7, -12, -99, 0}, 100, 93, 88, 1, 0);
    }

    static void modulusFromBelowZeroToBelow() {
        turnsTo(-100, new int[] {-7, -12, -99, 0}, -10, -7, -2, -9, 0);
    }

    static void modulusOneAndMinusOne() {
        turnsTo(100, new int[] {7, 12, 99, 0}, 1, 0, 0, 0, 0);
        turnsTo(100, new int[] {7, 12, 99, 0}, -1, 0, 0, 0, 0);
        turnsTo(-100, new int[] {-7, -12, -99, 0}, 1, 0, 0, 0, 0);
        turnsTo(-100, new int[] {-7, -12, -99, 0}, -1, 0, 0, 0, 0);
        turnsTo(1, new int[] {7, 12, 99, 0}, -1, 0, 0, 0, 0);
    }

    static void modulusThatIsTheLeastInt() {
        turnsTo(100, new int[] {7, 12, 99, 0}, IMIN, IMIN + 7, IMIN + 12, IMIN + 99, 0);
        turnsTo(-100, new int[] {-7, -12, -99, 0}, IMIN, -7, -12, -99, 0);
        turnsTo(IMIN, new int[] {IMIN, IMIN + 1, -1, 0}, IMIN, 0, IMIN + 1, -1, 0);
        turnsTo(IMIN, new int[] {IMIN, IMIN + 1, -1, 0}, 10, 0, 3, 9, 0);
    }

    static void modulusThatIsTheGreatestInt() {
        turnsTo(100, new int[] {7, 12, 99, 0}, IMAX, 7, 12, 99, 0);
        turnsTo(-100, new int[] {-7, -12, -99, 0}, IMAX, IMAX - 7, IMAX - 12, IMAX - 99, 0);
        turnsTo(IMAX, new int[] {IMAX, IMAX - 1, 1, 0}, IMIN, 0, -2, IMIN + 1, 0);
        turnsTo(IMIN, new int[] {IMIN + 1, -1, -2, 0}, IMAX, 0, IMAX - 1, IMAX - 2, 0);
        turnsTo(IMAX, new int[] {IMAX - 1, 1, 2, 0}, -IMAX, -1, 1 - IMAX, 2 - IMAX, 0);
    }

    static void theSameModulusAgain() {
        turnsTo(-12, new int[] {-5, -4, 0, -1}, -12, -5, -4, 0, -1);
    }

    static void modulusTellsThatBefore() {
        Modrings x = new Modrings();
        Check.same("27 RING 0 at first", x.modulus(0, IMIN), 7);
        Check.same("27 RING 1 at first", x.modulus(1, IMAX), 10);
        Check.same("27 RING 2 at first", x.modulus(2, -1), -12);
        Check.same("27 RING 0", x.modulus(0, 5), IMIN);
        Check.same("27 RING 1", x.modulus(1, 5), IMAX);
        Check.same("27 RING 2", x.modulus(2, 5), -1);
    }

    // ---- 28, 29, 35 and 36: RESIDUES go in and out

    private static void brings(int modulus, boolean isLong, long value, int want) {
        Modrings x = Made.numbers(isLong, 1, 2, value);
        x.modulus(2, modulus);
        Check.turns("28 " + value + " by " + modulus, x, 2, line(modulus, 0, want, 0, 0), want,
                () -> x.bring(2, 1, isLong, 2));
        Check.asks("35 " + value + " by " + modulus, x, want, () -> x.residue(2, 1));
        Check.asks("36 " + value + " by " + modulus, x, line(modulus, 0, want, 0, 0), () -> x.ringText(2));
        Check.becomes("29 " + value + " by " + modulus, x, INT, 0, want, () -> x.lift(2, 1, INT, 0));
        Check.becomes("29 " + value + " by " + modulus, x, LONG, 0, want, () -> x.lift(2, 1, LONG, 0));
    }

    static void residuesFromZeroToModulusLessOne() {
        int[] want = {0, 1, 2, 3, 4, 0, 1};
        for (boolean isLong : Made.KINDS) {
            for (int value = 0; value < want.length; value++) {
                brings(5, isLong, value, want[value]);
                brings(5, isLong, value - 5, want[value]);
            }
        }
    }

    static void residuesFromModulusMoreOneToZero() {
        int[] want = {0, -4, -3, -2, -1, 0, -4};
        for (boolean isLong : Made.KINDS) {
            for (int value = 0; value < want.length; value++) {
                brings(-5, isLong, value, want[value]);
                brings(-5, isLong, value - 5, want[value]);
            }
        }
    }

    static void residuesByOneAndMinusOneAreZero() {
        for (boolean isLong : Made.KINDS) {
            for (long value : new long[] {0, 1, -1, Made.least(isLong), Made.greatest(isLong)}) {
                brings(1, isLong, value, 0);
                brings(-1, isLong, value, 0);
            }
        }
    }

    static void residuesByTheLeastInt() {
        for (boolean isLong : Made.KINDS) {
            brings(IMIN, isLong, 0, 0);
            brings(IMIN, isLong, -1, -1);
            brings(IMIN, isLong, 1, IMIN + 1);
            brings(IMIN, isLong, IMIN, 0);
            brings(IMIN, isLong, IMIN + 1, IMIN + 1);
            brings(IMIN, isLong, IMAX, -1);
        }
        brings(IMIN, LONG, LMIN, 0);
        brings(IMIN, LONG, LMAX, -1);
        brings(IMIN, LONG, LMIN + 1, IMIN + 1);
    }

    static void residuesByTheGreatestInt() {
        for (boolean isLong : Made.KINDS) {
            brings(IMAX, isLong, 0, 0);
            brings(IMAX, isLong, -1, IMAX - 1);
            brings(IMAX, isLong, IMAX, 0);
            brings(IMAX, isLong, IMAX - 1, IMAX - 1);
            brings(IMAX, isLong, IMIN, IMAX - 1);
            brings(-IMAX, isLong, IMIN, -1);
        }
        brings(IMAX, LONG, LMIN, 2147483645);
        brings(IMAX, LONG, LMAX, 1);
        brings(-IMAX, LONG, LMAX, -2147483646);
    }

    // ---- 30 and 31: plus and times

    private static void adds(int modulus, int a, int b, int sum, int less) {
        Modrings x = Made.ring(modulus, 0, a, b);
        String what = "30 " + a + " and " + b + " by " + modulus;
        Check.turns(what, x, 0, line(modulus, 0, sum, b, 0), sum, () -> x.plus(0, 1, 2, false));
        Modrings y = Made.ring(modulus, 0, a, b);
        Check.turns(what + ", less", y, 0, line(modulus, 0, less, b, 0), less, () -> y.plus(0, 1, 2, true));
    }

    private static void multiplies(int modulus, int a, int b, int want) {
        Modrings x = Made.ring(modulus, 0, a, b);
        Check.turns("31 " + a + " and " + b + " by " + modulus, x, 0, line(modulus, 0, want, b, 0), want,
                () -> x.times(0, 1, 2));
    }

    static void sumsAtTheEndOfARing() {
        adds(7, 6, 1, 0, 5);
        adds(7, 6, 6, 5, 0);
        adds(7, 0, 6, 6, 1);
        adds(7, 3, 3, 6, 0);
        adds(-7, -6, -1, 0, -5);
        adds(-7, -6, -6, -5, 0);
        adds(-7, 0, -6, -6, -1);
        adds(1, 0, 0, 0, 0);
        adds(-1, 0, 0, 0, 0);
        adds(2, 1, 1, 0, 0);
        adds(-2, -1, -1, 0, 0);
    }

    static void sumsBeyondTheBoundsOfInts() {
        adds(IMAX, IMAX - 1, IMAX - 1, IMAX - 2, 0);
        adds(IMAX, IMAX - 1, 1, 0, IMAX - 2);
        adds(IMAX, 0, IMAX - 1, IMAX - 1, 1);
        adds(IMIN, IMIN + 1, IMIN + 1, IMIN + 2, 0);
        adds(IMIN, IMIN + 1, -1, 0, IMIN + 2);
        adds(IMIN, 0, IMIN + 1, IMIN + 1, -1);
        adds(-IMAX, 1 - IMAX, 1 - IMAX, 2 - IMAX, 0);
    }

    static void productsAtTheEndOfARing() {
        multiplies(7, 6, 6, 1);
        multiplies(7, 6, 0, 0);
        multiplies(12, 3, 4, 0);
        multiplies(-7, -6, -6, -6);
        multiplies(-7, -1, -1, -6);
        multiplies(-12, -3, -4, 0);
        multiplies(1, 0, 0, 0);
        multiplies(-1, 0, 0, 0);
    }

    static void productsBeyondTheBoundsOfInts() {
        multiplies(IMAX, IMAX - 1, IMAX - 1, 1);
        multiplies(IMAX, IMAX - 1, IMAX - 2, 2);
        multiplies(IMAX, 65536, 65536, 2);
        multiplies(IMIN, IMIN + 1, IMIN + 1, IMIN + 1);
        multiplies(IMIN, IMIN + 1, -1, -1);
        multiplies(IMIN, -1, -1, IMIN + 1);
        multiplies(IMIN, -65536, -65536, 0);
        multiplies(-IMAX, 1 - IMAX, 1 - IMAX, 1 - IMAX);
    }

    // ---- 32: power

    private static void raises(int modulus, int base, int exponent, int want) {
        Modrings x = Made.ring(modulus, 0, 0, 0, base);
        Check.turns("32 " + base + " to " + exponent + " by " + modulus, x, 0, line(modulus, 0, 0, 0, want), want,
                () -> x.power(0, 3, exponent));
    }

    static void exponentZeroIsTheResidueOfOne() {
        for (int base : new int[] {0, 1, 2, 3, 6}) {
            raises(7, base, 0, 1);
            raises(-7, base == 0 ? 0 : base - 7, 0, -6);
            raises(IMIN, -base, 0, IMIN + 1);
            raises(IMAX, base, 0, 1);
        }
    }

    static void exponentZeroByOneAndMinusOne() {
        raises(1, 0, 0, 0);
        raises(-1, 0, 0, 0);
        raises(1, 0, IMAX, 0);
        raises(-1, 0, IMAX, 0);
    }

    static void exponentZeroByTwoAndMinusTwo() {
        raises(2, 0, 0, 1);
        raises(-2, 0, 0, -1);
    }

    static void exponentOneChangesNothing() {
        raises(7, 5, 1, 5);
        raises(-7, -5, 1, -5);
        raises(IMAX, IMAX - 1, 1, IMAX - 1);
        raises(IMIN, IMIN + 1, 1, IMIN + 1);
        raises(7, 0, 1, 0);
    }

    static void exponentThatIsTheGreatestInt() {
        raises(7, 0, IMAX, 0);
        raises(7, 1, IMAX, 1);
        raises(7, 6, IMAX, 6);
        raises(7, 3, IMAX, 3);
        raises(IMAX, 2, IMAX, 2);
        raises(IMAX, 3, IMAX - 1, 1);
        raises(IMAX, IMAX - 1, IMAX, IMAX - 1);
        raises(IMIN, IMIN + 1, IMAX, IMIN + 1);
        raises(IMIN, -1, IMAX, -1);
        raises(IMIN, -1, IMAX - 1, IMIN + 1);
    }

    static void exponentsOfOneBit() {
        raises(IMAX, 2, 30, 1 << 30);
        raises(IMAX, 2, 31, 1);
        raises(IMAX, 2, 1 << 30, 2);
        raises(IMAX, 3, 1 << 30, IMAX - 3);
        raises(1000, 3, 2, 9);
        raises(1000, 3, 4, 81);
        raises(1000, 3, 8, 561);
    }

    // ---- 33 and 34: inverse

    private static void inverts(int modulus, int residue, int want) {
        Modrings x = Made.ring(modulus, 0, 0, residue);
        String what = residue + " by " + modulus;
        Check.asks("34 " + what, x, true, () -> x.isUnit(0, 2));
        Check.turns("33 " + what, x, 0, line(modulus, 0, 0, want, 0), 1, () -> x.inverse(0, 2));
    }

    static void inverseOfEachUnit() {
        int[] bySeven = {1, 4, 5, 2, 3, 6};
        for (int residue = 1; residue < 7; residue++) {
            inverts(7, residue, bySeven[residue - 1]);
        }
        for (int residue : new int[] {1, 5, 7, 11}) {
            inverts(12, residue, residue);
        }
    }

    static void inverseByAModulusBelowZero() {
        // The RESIDUE of 1 is -6 by -7, and -11 by -12.
        inverts(-7, -6, -6);
        inverts(-7, -1, -1);
        inverts(-7, -2, -4);
        inverts(-7, -3, -5);
        inverts(-12, -11, -11);
        inverts(-12, -7, -7);
        inverts(-12, -5, -5);
        inverts(-12, -1, -1);
    }

    static void zeroIsItsInverseByOneAndMinusOne() {
        inverts(1, 0, 0);
        inverts(-1, 0, 0);
    }

    static void inverseByTwoAndMinusTwo() {
        inverts(2, 1, 1);
        inverts(-2, -1, -1);
    }

    static void inverseByTheGreatestInt() {
        inverts(IMAX, 1, 1);
        inverts(IMAX, 2, 1 << 30);
        inverts(IMAX, 1 << 30, 2);
        inverts(IMAX, IMAX - 1, IMAX - 1);
        inverts(IMAX, 3, 1431655765);
        inverts(-IMAX, -1, -1);
        inverts(-IMAX, 1 - IMAX, 1 - IMAX);
        inverts(-IMAX, -2, -(1 << 30));
    }

    static void inverseByTheLeastInt() {
        inverts(IMIN, -1, -1);
        inverts(IMIN, IMIN + 1, IMIN + 1);
        inverts(IMIN, IMIN + 3, -1431655765);
        inverts(IMIN, -1431655765, IMIN + 3);
    }

    static void isUnitOfNone() {
        int[][] none = {{7, 0}, {12, 0}, {12, 2}, {12, 3}, {12, 10}, {-12, -2}, {-12, -9}, {2, 0}, {-2, 0},
            {IMIN, 0}, {IMIN, -2}, {IMAX, 0}, {-IMAX, 0}};
        for (int[] one : none) {
            Modrings x = Made.ring(one[0], one[1]);
            Check.asks("34 " + one[1] + " by " + one[0], x, false, () -> x.isUnit(0, 0));
        }
    }

    // ---- 37: areAlike

    private static void alike(int modulus, boolean isLong, long a, long b, boolean want) {
        Modrings x = Made.numbers(isLong, 0, a, b);
        x.modulus(1, modulus);
        String what = "37 " + a + " and " + b + " by " + modulus;
        Check.asks(what, x, want, () -> x.areAlike(1, isLong, 1, 2));
        Check.asks(what + ", other way", x, want, () -> x.areAlike(1, isLong, 2, 1));
    }

    static void alikeOfTwoSigns() {
        for (boolean isLong : Made.KINDS) {
            alike(7, isLong, -3, 4, true);
            alike(7, isLong, 3, -3, false);
            alike(-7, isLong, -3, 4, true);
            alike(-7, isLong, 3, -3, false);
            alike(7, isLong, 0, 7, true);
            alike(-7, isLong, 0, 7, true);
        }
    }

    static void allAreAlikeByOneAndMinusOne() {
        for (boolean isLong : Made.KINDS) {
            alike(1, isLong, Made.least(isLong), Made.greatest(isLong), true);
            alike(-1, isLong, Made.least(isLong), Made.greatest(isLong), true);
            alike(-1, isLong, 0, 1, true);
        }
    }

    static void alikeByTheBoundsOfInts() {
        for (boolean isLong : Made.KINDS) {
            alike(IMIN, isLong, IMIN, 0, true);
            alike(IMIN, isLong, IMAX, -1, true);
            alike(IMIN, isLong, IMAX, 1, false);
            alike(IMAX, isLong, IMIN, -1, true);
            alike(IMAX, isLong, IMAX, 0, true);
            alike(IMAX, isLong, IMIN, IMAX, false);
        }
    }

    static void alikeWhereTheDifferenceIsBeyondTheBounds() {
        // 2^64 - 1 and 2^32 - 1 are multiples of 3; what they go round to, -1, is none.
        alike(3, LONG, LMIN, LMAX, true);
        alike(3, INT, IMIN, IMAX, true);
        alike(-5, LONG, LMIN, LMAX, true);
        alike(2, LONG, LMIN, LMAX, false);
        alike(7, INT, IMIN, IMAX, false);
    }

    // ---- 38: together

    private static void meet(int modulus, int value, int otherModulus, int otherValue, long want) {
        Modrings x = Made.twoRings(modulus, value, otherModulus, otherValue);
        Made.putLong(x, 2, 77);
        Made.putLong(x, 3, 77);
        String what = "38 " + value + " by " + modulus + " and " + otherValue + " by " + otherModulus;
        Check.becomes(what, x, LONG, 2, want, () -> x.together(2, 0, 0, 1, 0));
        Check.becomes(what + ", other way", x, LONG, 3, want, () -> x.together(3, 1, 0, 0, 0));
    }

    static void togetherOfModuliWithoutACommonDivisor() {
        meet(7, 4, 10, 7, 67);
        meet(7, 0, 10, 0, 0);
        meet(7, 6, 10, 9, 69);
        meet(3, 2, 5, 3, 8);
    }

    static void togetherOfModuliWithACommonDivisor() {
        meet(10, 7, 12, 11, 47);
        meet(4, 2, 6, 0, 6);
        meet(6, 3, 9, 3, 3);
        meet(12, 5, 4, 1, 5);
        meet(6, 5, 6, 5, 5);
    }

    static void togetherOfModuliBelowZeroIsFromZeroOn() {
        meet(-7, -3, 10, 7, 67);
        meet(7, 4, -10, -3, 67);
        meet(-7, -3, -10, -3, 67);
        meet(-10, -3, -12, -1, 47);
        meet(-7, 0, -10, 0, 0);
        meet(-7, -1, -10, -1, 69);
        meet(-6, -1, 6, 5, 5);
    }

    static void togetherWithOneAndMinusOne() {
        meet(1, 0, 10, 7, 7);
        meet(-1, 0, 10, 7, 7);
        meet(1, 0, -10, -3, 7);
        meet(1, 0, 1, 0, 0);
        meet(-1, 0, -1, 0, 0);
        meet(1, 0, -1, 0, 0);
        meet(1, 0, IMIN, -1, IMAX);
        meet(-1, 0, IMAX, IMAX - 1, IMAX - 1);
    }

    static void togetherOfTheLeastAndTheGreatestInt() {
        meet(IMAX, IMAX - 1, IMIN, -1, 4611686016279904255L);
        meet(IMAX, 0, IMIN, 0, 0);
        meet(IMAX, 1, IMIN, IMIN + 1, 1);
        meet(IMAX, 0, IMIN, -1, IMAX);
        meet(IMAX, IMAX - 1, IMIN, 0, 4611686016279904256L - (1L << 31));
        meet(-IMAX, -1, IMIN, -1, 4611686016279904255L);
        meet(-IMAX, 1 - IMAX, IMIN, IMIN + 1, 1);
        meet(IMIN, -1, IMIN, -1, IMAX);
        meet(IMAX, IMAX - 1, -IMAX, -1, IMAX - 1);
        meet(IMIN, IMIN + 1, 1 << 30, 1, 1);
        meet(IMAX, IMAX - 1, IMAX - 1, IMAX - 2, 4611686011984936961L);
    }

    static void togetherOfSlotsOfOneRing() {
        Modrings x = Made.ring(-12, 5, 0, 5);
        Check.becomes("38 two SLOTS of a RING", x, LONG, 1, 5, () -> x.together(1, 0, 0, 0, 2));
        Check.becomes("38 a SLOT with 0", x, LONG, 1, 0, () -> x.together(1, 0, 1, 0, 1));
    }

    // ---- 39: common

    private static void shared(int modulus, int otherModulus, String divisor, String multiple) {
        Modrings x = new Modrings();
        x.modulus(0, modulus);
        x.modulus(2, otherModulus);
        String what = "39 " + modulus + " and " + otherModulus;
        Check.asks(what + ", divisor", x, divisor, () -> x.common(0, 2, false));
        Check.asks(what + ", multiple", x, multiple, () -> x.common(0, 2, true));
        Check.asks(what + ", divisor, other way", x, divisor, () -> x.common(2, 0, false));
        Check.asks(what + ", multiple, other way", x, multiple, () -> x.common(2, 0, true));
    }

    static void commonIsAboveZeroAlsoWithModuliBelowZero() {
        shared(10, 12, "2", "60");
        shared(10, -12, "2", "60");
        shared(-10, 12, "2", "60");
        shared(-10, -12, "2", "60");
        shared(-7, -7, "7", "7");
        shared(7, -7, "7", "7");
        shared(-3, 12, "3", "12");
    }

    static void commonWithOneAndMinusOne() {
        shared(1, 1, "1", "1");
        shared(1, -1, "1", "1");
        shared(-1, -1, "1", "1");
        shared(-1, 12, "1", "12");
        shared(1, IMIN, "1", "2147483648");
        shared(-1, IMAX, "1", "2147483647");
    }

    static void commonOfTheLeastAndTheGreatestInt() {
        shared(IMIN, IMIN, "2147483648", "2147483648");
        shared(IMAX, IMAX, "2147483647", "2147483647");
        shared(IMIN, IMAX, "1", "4611686016279904256");
        shared(IMIN, -IMAX, "1", "4611686016279904256");
        shared(IMIN, 12, "4", "6442450944");
        shared(IMIN, -(1 << 30), "1073741824", "2147483648");
        shared(IMAX, IMAX - 1, "1", "4611686011984936962");
    }

    public static void main(String[] args) {
        Check.run(RingEdgeTest.class);
    }
}
