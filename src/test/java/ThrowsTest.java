/**
 * The sentences that name an exception: an index that is no number, RING or SLOT, a what that is none
 * of those named, a divisor, MODULUS or exponent that is not allowed; which one goes ahead, also of
 * REFUSED; and that nothing changes then. Each on a new object of which no part is as at first.
 */
public final class ThrowsTest {
    private static final int IMIN = Made.IMIN;
    private static final int IMAX = Made.IMAX;

    /** A call in which one argument is still to be told. */
    private interface CallOf {
        Object answer(Modrings x, int argument);
    }

    /** A call in which the kind is still to be told too. */
    private interface CallOfKind {
        Object answer(Modrings x, boolean isLong, int argument);
    }

    /** Below 0, just above the last one, and far off: no such one; the first and the last one: there. */
    private static void indexes(String what, int count, CallOf call) {
        for (int bad : new int[] {-1, count, IMIN, IMAX}) {
            Modrings x = Made.busy();
            Check.noIndex(what + " " + bad, x, () -> call.answer(x, bad));
        }
        for (int good = 0; good < count; good++) {
            Modrings x = Made.busy();
            int index = good;
            Check.throwsNothing(what + " " + index, () -> call.answer(x, index));
        }
    }

    private static void numbers(String what, CallOf call) {
        indexes(what, 4, call);
    }

    private static void numbersOfBothKinds(String what, CallOfKind call) {
        numbers(what + " of INTS", (x, k) -> call.answer(x, false, k));
        numbers(what + " of LONGS", (x, k) -> call.answer(x, true, k));
    }

    private static void slots(String what, CallOf call) {
        indexes(what, 4, call);
    }

    private static void rings(String what, CallOf call) {
        indexes(what, 3, call);
    }

    private static void notAllowed(String what, int[] bad, CallOf call) {
        for (int argument : bad) {
            Modrings x = Made.busy();
            Check.noArgument(what + " " + argument, x, () -> call.answer(x, argument));
        }
    }

    private static void allowed(String what, int[] good, CallOf call) {
        for (int argument : good) {
            Modrings x = Made.busy();
            Check.throwsNothing(what + " " + argument, () -> call.answer(x, argument));
        }
    }

    /** The choices 0 to last are there, and those around them are not. */
    private static void choices(String what, int last, CallOf call) {
        notAllowed(what, new int[] {-1, last + 1, IMIN, IMAX}, call);
        for (int choice = 0; choice <= last; choice++) {
            allowed(what, new int[] {choice}, call);
        }
    }

    private static void choicesOfBothKinds(String what, int last, CallOfKind call) {
        choices(what + " of INTS", last, (x, choice) -> call.answer(x, false, choice));
        choices(what + " of LONGS", last, (x, choice) -> call.answer(x, true, choice));
    }

    /** A divisor that may be any INT but 0. */
    private static void notZero(String what, CallOf call) {
        notAllowed(what, new int[] {0}, call);
        allowed(what, new int[] {1, -1, IMIN, IMAX}, call);
    }

    /** A divisor that may not be below 1. */
    private static void notBelowOne(String what, CallOf call) {
        notAllowed(what, new int[] {0, -1, IMIN}, call);
        allowed(what, new int[] {1, IMAX}, call);
    }

    /** Both exceptions apply, and that of the index is named first. */
    private static void indexFirst(String what, int count, CallOf call) {
        for (int bad : new int[] {-1, count}) {
            Modrings x = Made.busy();
            Check.noIndex(what + " " + bad + " ahead of the argument", x, () -> call.answer(x, bad));
        }
    }

    // ---- an index that is no number, RING or SLOT

    static void putOfNoNumber() {
        numbersOfBothKinds("2 put k", (x, isLong, k) -> x.put(isLong, k, 3, 4));
    }

    static void copyOfNoNumber() {
        numbersOfBothKinds("3 copy k", (x, isLong, k) -> x.copy(isLong, k, 1));
        numbersOfBothKinds("3 copy from", (x, isLong, k) -> x.copy(isLong, 0, k));
    }

    static void widenOfNoNumber() {
        numbers("4 widen k", (x, k) -> x.widen(k, 1));
        numbers("4 widen from", (x, k) -> x.widen(1, k));
    }

    static void narrowOfNoNumber() {
        numbers("5 narrow k", (x, k) -> x.narrow(k, 1));
        numbers("5 narrow from", (x, k) -> x.narrow(1, k));
    }

    static void exactOfNoNumber() {
        for (int what = 0; what <= 2; what++) {
            int choice = what;
            numbersOfBothKinds("6 exact k", (x, isLong, k) -> x.exact(isLong, k, 1, choice));
            numbersOfBothKinds("6 exact from", (x, isLong, k) -> x.exact(isLong, 1, k, choice));
        }
    }

    static void fitsOfNoNumber() {
        for (int what = 0; what <= 2; what++) {
            int choice = what;
            numbersOfBothKinds("7 fits a", (x, isLong, k) -> x.fits(isLong, k, 1, choice));
            numbersOfBothKinds("7 fits b", (x, isLong, k) -> x.fits(isLong, 1, k, choice));
        }
    }

    static void aloneOfNoNumber() {
        for (int what = 0; what <= 2; what++) {
            int choice = what;
            numbersOfBothKinds("8 alone k", (x, isLong, k) -> x.alone(isLong, k, choice));
        }
    }

    static void timesIntOfNoNumber() {
        numbers("9 timesInt k", (x, k) -> x.timesInt(k, 1));
        numbers("9 timesInt from", (x, k) -> x.timesInt(1, k));
    }

    static void fullOfNoNumber() {
        numbers("10 full k", (x, k) -> x.full(k, 0, 1));
        numbers("10 full a", (x, k) -> x.full(0, k, 1));
        numbers("10 full b", (x, k) -> x.full(0, 1, k));
    }

    static void highOfNoNumber() {
        numbers("11 high k", (x, k) -> x.high(k, 0, 1));
        numbers("11 high a", (x, k) -> x.high(0, k, 1));
        numbers("11 high b", (x, k) -> x.high(0, 1, k));
    }

    static void roundOfNoNumber() {
        for (int what = 0; what <= 2; what++) {
            int choice = what;
            numbersOfBothKinds("12 round k", (x, isLong, k) -> x.round(isLong, k, 1, choice));
            numbersOfBothKinds("12 round from", (x, isLong, k) -> x.round(isLong, 1, k, choice));
        }
    }

    static void absOfNoNumber() {
        numbersOfBothKinds("13 abs k", (x, isLong, k) -> x.abs(isLong, k));
    }

    static void extremeOfNoNumber() {
        for (boolean isGreater : new boolean[] {false, true}) {
            numbersOfBothKinds("14 extreme k", (x, isLong, k) -> x.extreme(isLong, k, 1, isGreater));
            numbersOfBothKinds("14 extreme from", (x, isLong, k) -> x.extreme(isLong, 1, k, isGreater));
        }
    }

    static void floorOfNoNumber() {
        for (boolean isRest : new boolean[] {false, true}) {
            numbersOfBothKinds("15 floor k", (x, isLong, k) -> x.floor(isLong, k, 1, isRest));
            numbersOfBothKinds("15 floor from", (x, isLong, k) -> x.floor(isLong, 1, k, isRest));
        }
    }

    static void floorIntOfNoNumber() {
        for (boolean isRest : new boolean[] {false, true}) {
            numbers("16 floorInt k", (x, k) -> x.floorInt(k, 1, isRest));
            numbers("16 floorInt from", (x, k) -> x.floorInt(1, k, isRest));
        }
    }

    static void towardsOfNoNumber() {
        for (boolean isRest : new boolean[] {false, true}) {
            numbersOfBothKinds("17 towards k", (x, isLong, k) -> x.towards(isLong, k, 1, isRest));
            numbersOfBothKinds("17 towards from", (x, isLong, k) -> x.towards(isLong, 1, k, isRest));
        }
    }

    static void averageOfNoNumber() {
        for (boolean isUp : new boolean[] {false, true}) {
            numbersOfBothKinds("18 average k", (x, isLong, k) -> x.average(isLong, k, 1, isUp));
            numbersOfBothKinds("18 average from", (x, isLong, k) -> x.average(isLong, 1, k, isUp));
        }
    }

    static void chainOfNoNumber() {
        numbers("19 chain k", (x, k) -> x.chain(k, 2, 3, 5));
    }

    static void atOnceOfNoNumber() {
        numbers("20 atOnce k", (x, k) -> x.atOnce(k, 2, 3, 5));
    }

    static void distanceOfNoNumber() {
        numbersOfBothKinds("21 distance a", (x, isLong, k) -> x.distance(isLong, k, 1));
        numbersOfBothKinds("21 distance b", (x, isLong, k) -> x.distance(isLong, 1, k));
    }

    static void compareOfNoNumber() {
        numbersOfBothKinds("22 compare a", (x, isLong, k) -> x.compare(isLong, k, 1));
        numbersOfBothKinds("22 compare b", (x, isLong, k) -> x.compare(isLong, 1, k));
    }

    static void textOfNoNumber() {
        numbersOfBothKinds("23 text k", (x, isLong, k) -> x.text(isLong, k));
    }

    static void ofNumberOfNoNumber() {
        for (int what = 0; what <= 4; what++) {
            int choice = what;
            numbersOfBothKinds("24 ofNumber k", (x, isLong, k) -> x.ofNumber(isLong, k, choice));
        }
    }

    static void restOfNoNumber() {
        numbersOfBothKinds("25 rest k", (x, isLong, k) -> x.rest(isLong, k, 3));
    }

    static void quotientOfNoNumber() {
        numbersOfBothKinds("26 quotient k", (x, isLong, k) -> x.quotient(isLong, k, 3));
    }

    static void modulusOfNoRing() {
        rings("27 modulus ring", (x, ring) -> x.modulus(ring, 5));
    }

    static void bringOfNoSuchOne() {
        rings("28 bring ring", (x, ring) -> x.bring(ring, 1, true, 0));
        slots("28 bring slot", (x, slot) -> x.bring(1, slot, true, 0));
        numbersOfBothKinds("28 bring k", (x, isLong, k) -> x.bring(1, 1, isLong, k));
    }

    static void liftOfNoSuchOne() {
        rings("29 lift ring", (x, ring) -> x.lift(ring, 0, true, 0));
        slots("29 lift slot", (x, slot) -> x.lift(1, slot, true, 0));
        numbersOfBothKinds("29 lift k", (x, isLong, k) -> x.lift(1, 1, isLong, k));
    }

    static void plusOfNoSuchOne() {
        for (boolean isLess : new boolean[] {false, true}) {
            rings("30 plus ring", (x, ring) -> x.plus(ring, 0, 3, isLess));
            slots("30 plus slot", (x, slot) -> x.plus(1, slot, 3, isLess));
            slots("30 plus other", (x, slot) -> x.plus(1, 1, slot, isLess));
        }
    }

    static void timesOfNoSuchOne() {
        rings("31 times ring", (x, ring) -> x.times(ring, 0, 3));
        slots("31 times slot", (x, slot) -> x.times(1, slot, 3));
        slots("31 times other", (x, slot) -> x.times(1, 1, slot));
    }

    static void powerOfNoSuchOne() {
        rings("32 power ring", (x, ring) -> x.power(ring, 0, 2));
        slots("32 power slot", (x, slot) -> x.power(1, slot, 2));
    }

    static void inverseOfNoSuchOne() {
        rings("33 inverse ring", (x, ring) -> x.inverse(ring, 0));
        slots("33 inverse slot", (x, slot) -> x.inverse(1, slot));
    }

    static void isUnitOfNoSuchOne() {
        rings("34 isUnit ring", (x, ring) -> x.isUnit(ring, 0));
        slots("34 isUnit slot", (x, slot) -> x.isUnit(1, slot));
    }

    static void residueOfNoSuchOne() {
        rings("35 residue ring", (x, ring) -> x.residue(ring, 0));
        slots("35 residue slot", (x, slot) -> x.residue(1, slot));
    }

    static void ringTextOfNoRing() {
        rings("36 ringText ring", (x, ring) -> x.ringText(ring));
    }

    static void areAlikeOfNoSuchOne() {
        rings("37 areAlike ring", (x, ring) -> x.areAlike(ring, true, 0, 1));
        numbersOfBothKinds("37 areAlike a", (x, isLong, k) -> x.areAlike(1, isLong, k, 1));
        numbersOfBothKinds("37 areAlike b", (x, isLong, k) -> x.areAlike(1, isLong, 1, k));
    }

    static void togetherOfNoSuchOne() {
        numbers("38 together k", (x, k) -> x.together(k, 0, 0, 1, 0));
        rings("38 together ring", (x, ring) -> x.together(0, ring, 0, 1, 0));
        slots("38 together slot", (x, slot) -> x.together(0, 0, slot, 1, 0));
        rings("38 together other", (x, ring) -> x.together(0, 0, 0, ring, 0));
        slots("38 together from", (x, slot) -> x.together(0, 0, 0, 1, slot));
    }

    static void commonOfNoRing() {
        for (boolean isLeast : new boolean[] {false, true}) {
            rings("39 common ring", (x, ring) -> x.common(ring, 1, isLeast));
            rings("39 common other", (x, ring) -> x.common(1, ring, isLeast));
        }
    }

    // ---- an argument that is none of those named

    static void exactOfNoSuchWhat() {
        choicesOfBothKinds("6 exact what", 2, (x, isLong, what) -> x.exact(isLong, 0, 1, what));
    }

    static void fitsOfNoSuchWhat() {
        choicesOfBothKinds("7 fits what", 2, (x, isLong, what) -> x.fits(isLong, 0, 1, what));
    }

    static void aloneOfNoSuchWhat() {
        choicesOfBothKinds("8 alone what", 2, (x, isLong, what) -> x.alone(isLong, 1, what));
    }

    static void roundOfNoSuchWhat() {
        choicesOfBothKinds("12 round what", 2, (x, isLong, what) -> x.round(isLong, 0, 1, what));
    }

    static void ofNumberOfNoSuchWhat() {
        choicesOfBothKinds("24 ofNumber what", 4, (x, isLong, what) -> x.ofNumber(isLong, 0, what));
    }

    static void houseOfNoSuchWhat() {
        choices("40 house what", 3, (x, what) -> x.house(what));
    }

    // ---- a divisor, a MODULUS or an exponent that is not allowed

    static void chainBelowOne() {
        notBelowOne("19 chain a", (x, by) -> x.chain(0, by, 3, 5));
        notBelowOne("19 chain b", (x, by) -> x.chain(0, 2, by, 5));
        notBelowOne("19 chain c", (x, by) -> x.chain(0, 2, 3, by));
        notBelowOne("19 chain all", (x, by) -> x.chain(0, by, by, by));
    }

    static void atOnceBelowOne() {
        notBelowOne("20 atOnce a", (x, by) -> x.atOnce(0, by, 3, 5));
        notBelowOne("20 atOnce b", (x, by) -> x.atOnce(0, 2, by, 5));
        notBelowOne("20 atOnce c", (x, by) -> x.atOnce(0, 2, 3, by));
        notBelowOne("20 atOnce a and b, whose product is above 0", (x, by) -> x.atOnce(0, by, by, 5));
    }

    static void restByZero() {
        notZero("25 rest by, INT", (x, by) -> x.rest(false, 0, by));
        notZero("25 rest by, LONG", (x, by) -> x.rest(true, 0, by));
        notZero("25 rest of 0 by", (x, by) -> x.rest(true, 2, by));
    }

    static void quotientByZero() {
        notZero("26 quotient by, INT", (x, by) -> x.quotient(false, 0, by));
        notZero("26 quotient by, LONG", (x, by) -> x.quotient(true, 0, by));
        notZero("26 quotient of 0 by", (x, by) -> x.quotient(false, 2, by));
    }

    static void modulusZero() {
        for (int ring = 0; ring < 3; ring++) {
            int which = ring;
            notZero("27 modulus of RING " + ring, (x, modulus) -> x.modulus(which, modulus));
        }
    }

    static void powerBelowZero() {
        notAllowed("32 power exponent", new int[] {-1, -2, IMIN}, (x, exponent) -> x.power(0, 0, exponent));
        allowed("32 power exponent", new int[] {0, 1, IMAX}, (x, exponent) -> x.power(0, 0, exponent));
        // 0 and 1 would come out right by many ways to go wrong: these are asked too.
        notAllowed("32 power of 0, exponent", new int[] {-1, IMIN}, (x, exponent) -> x.power(0, 1, exponent));
        notAllowed("32 power of 1, exponent", new int[] {-1, IMIN}, (x, exponent) -> x.power(0, 3, exponent));
    }

    // ---- if several exceptions apply, the one that is named first

    static void indexAheadOfWhat() {
        for (boolean isLong : Made.KINDS) {
            for (int what : new int[] {-1, 3}) {
                indexFirst("6 exact k", 4, (x, k) -> x.exact(isLong, k, 1, what));
                indexFirst("6 exact from", 4, (x, k) -> x.exact(isLong, 1, k, what));
                indexFirst("7 fits a", 4, (x, k) -> x.fits(isLong, k, 1, what));
                indexFirst("7 fits b", 4, (x, k) -> x.fits(isLong, 1, k, what));
                indexFirst("8 alone k", 4, (x, k) -> x.alone(isLong, k, what));
                indexFirst("12 round k", 4, (x, k) -> x.round(isLong, k, 1, what));
                indexFirst("12 round from", 4, (x, k) -> x.round(isLong, 1, k, what));
            }
            for (int what : new int[] {-1, 5}) {
                indexFirst("24 ofNumber k", 4, (x, k) -> x.ofNumber(isLong, k, what));
            }
        }
    }

    static void indexAheadOfDivisor() {
        indexFirst("19 chain k", 4, (x, k) -> x.chain(k, 0, 1, 1));
        indexFirst("19 chain k", 4, (x, k) -> x.chain(k, 1, 0, 1));
        indexFirst("19 chain k", 4, (x, k) -> x.chain(k, 1, 1, 0));
        indexFirst("20 atOnce k", 4, (x, k) -> x.atOnce(k, -1, 1, 1));
        indexFirst("20 atOnce k", 4, (x, k) -> x.atOnce(k, 1, -1, 1));
        indexFirst("20 atOnce k", 4, (x, k) -> x.atOnce(k, 1, 1, -1));
        for (boolean isLong : Made.KINDS) {
            indexFirst("25 rest k", 4, (x, k) -> x.rest(isLong, k, 0));
            indexFirst("26 quotient k", 4, (x, k) -> x.quotient(isLong, k, 0));
        }
    }

    static void ringAheadOfModulus() {
        indexFirst("27 modulus ring", 3, (x, ring) -> x.modulus(ring, 0));
    }

    static void ringAndSlotAheadOfExponent() {
        indexFirst("32 power ring", 3, (x, ring) -> x.power(ring, 0, -1));
        indexFirst("32 power slot", 4, (x, slot) -> x.power(0, slot, -1));
    }

    // ---- exceptions go ahead of REFUSED

    private static void indexAheadOfRefused(String what, CallOf call) {
        for (int bad : new int[] {-1, 4}) {
            Modrings x = Made.busy();
            Check.noIndex(what + " " + bad + " ahead of REFUSED", x, () -> call.answer(x, bad));
        }
        Modrings x = Made.busy();
        Check.refused(what + " 0 is REFUSED", x, () -> call.answer(x, 0));
    }

    private static void argumentAheadOfRefused(String what, int bad, int good, CallOf call) {
        Modrings x = Made.busy();
        Check.noArgument(what + " ahead of REFUSED", x, () -> call.answer(x, bad));
        Check.refused(what + " that is allowed is REFUSED", x, () -> call.answer(x, good));
    }

    static void narrowOfNoIntAheadOfRefused() {
        indexAheadOfRefused("5 narrow k", (x, k) -> x.narrow(k, 0));
    }

    static void floorOfNoNumberAheadOfRefused() {
        for (boolean isLong : Made.KINDS) {
            for (boolean isRest : new boolean[] {false, true}) {
                indexAheadOfRefused("15 floor k", (x, k) -> x.floor(isLong, k, 2, isRest));
            }
        }
    }

    static void floorIntOfNoLongAheadOfRefused() {
        for (boolean isRest : new boolean[] {false, true}) {
            indexAheadOfRefused("16 floorInt k", (x, k) -> x.floorInt(k, 2, isRest));
        }
    }

    static void towardsOfNoNumberAheadOfRefused() {
        for (boolean isLong : Made.KINDS) {
            for (boolean isRest : new boolean[] {false, true}) {
                indexAheadOfRefused("17 towards k", (x, k) -> x.towards(isLong, k, 2, isRest));
            }
        }
    }

    static void atOnceOfNoLongAheadOfRefused() {
        indexAheadOfRefused("20 atOnce k", (x, k) -> x.atOnce(k, IMAX, IMAX, IMAX));
    }

    static void atOnceBelowOneAheadOfRefused() {
        argumentAheadOfRefused("20 atOnce a", IMIN, IMAX, (x, by) -> x.atOnce(0, by, IMAX, IMAX));
        argumentAheadOfRefused("20 atOnce b", IMIN, IMAX, (x, by) -> x.atOnce(0, IMAX, by, IMAX));
        argumentAheadOfRefused("20 atOnce c", IMIN, IMAX, (x, by) -> x.atOnce(0, IMAX, IMAX, by));
    }

    static void exactOfNoSuchWhatAheadOfRefused() {
        argumentAheadOfRefused("6 exact what", 3, 0, (x, what) -> x.exact(true, 0, 0, what));
        argumentAheadOfRefused("6 exact what", -1, 2, (x, what) -> x.exact(false, 3, 3, what));
    }

    static void aloneOfNoSuchWhatAheadOfRefused() {
        argumentAheadOfRefused("8 alone what", -1, 0, (x, what) -> x.alone(true, 0, what));
        argumentAheadOfRefused("8 alone what", 3, 0, (x, what) -> x.alone(false, 3, what));
    }

    static void togetherOfNoLongAheadOfRefused() {
        // 3 by 10 and -4 by -12: the one is odd and the other even, so that no number has both.
        indexAheadOfRefused("38 together k", (x, k) -> x.together(k, 1, 0, 2, 1));
    }

    public static void main(String[] args) {
        Check.run(ThrowsTest.class);
    }
}
