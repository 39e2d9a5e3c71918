/** Each promise of the document by ordinary inputs, its edges and wrong inputs; on fresh objects. */
public final class PromiseTest {
    private static final boolean INT = Made.INT;
    private static final boolean LONG = Made.LONG;
    private static final int REFUSED = -9;
    private static final int IMIN = Made.IMIN;
    private static final int IMAX = Made.IMAX;
    private static final long LMIN = Made.LMIN;
    private static final long LMAX = Made.LMAX;

    private static void promise1() {
        Modrings x = new Modrings();
        for (int k = 0; k < 4; k++) {
            Check.isInt("1", x, k, 0);
            Check.isLong("1", x, k, 0);
        }
        Check.same("1 ring 0", x.ringText(0), "7: 0 0 0 0");
        Check.same("1 ring 1", x.ringText(1), "10: 0 0 0 0");
        Check.same("1 ring 2", x.ringText(2), "-12: 0 0 0 0");
        Check.same("1 refusals", x.house(0), 0);
        Check.same("1 knocks", x.house(1), 0);
        Modrings y = new Modrings();
        y.put(INT, 0, 0, 5);
        Check.isInt("1 two objects have nothing in common", x, 0, 0);
    }

    private static void promise2() {
        Modrings x = new Modrings();
        Check.same("2 INT", x.put(INT, 0, 99, -5), -1);
        Check.isInt("2", x, 0, -5);
        Check.same("2 INT 0", x.put(INT, 0, -1, 0), 0);
        Check.same("2 INT least", x.put(INT, 3, 0, IMIN), -1);
        Check.isInt("2", x, 3, IMIN);
        Check.same("2 LONG", x.put(LONG, 0, 1, 2), 1);
        Check.isLong("2", x, 0, 4294967298L);
        Check.same("2 LONG low below 0", x.put(LONG, 1, 0, -1), 1);
        Check.isLong("2", x, 1, 4294967295L);
        Check.same("2 LONG -1", x.put(LONG, 2, -1, -1), -1);
        Check.isLong("2", x, 2, -1);
        Check.same("2 LONG least", x.put(LONG, 3, IMIN, 0), -1);
        Check.isLong("2", x, 3, LMIN);
        x.put(LONG, 3, IMAX, -1);
        Check.isLong("2", x, 3, LMAX);
        Check.same("2 LONG 0", x.put(LONG, 3, 0, 0), 0);
        Check.isInt("2 the other kind stays", x, 0, 0);
        Check.noIndex("2 put k -1", x, () -> x.put(INT, -1, 0, 1));
        Check.noIndex("2 put k 4", x, () -> x.put(LONG, 4, 0, 1));
    }

    private static void promise3() {
        Modrings x = Made.ints(3, -4);
        Check.same("3", x.copy(INT, 0, 1), -1);
        Check.isInt("3", x, 0, -4);
        Check.isInt("3 the other one stays", x, 1, -4);
        Check.same("3 of LONGS", x.copy(LONG, 0, 1), 0);
        Made.putLong(x, 2, LMAX);
        Check.same("3 LONG", x.copy(LONG, 3, 2), 1);
        Check.isLong("3", x, 3, LMAX);
        Check.same("3 itself", x.copy(INT, 0, 0), -1);
        Check.noIndex("3 copy k", x, () -> x.copy(INT, 4, 0));
        Check.noIndex("3 copy from", x, () -> x.copy(LONG, 0, -1));
        Check.noIndex("3 copy from 4", x, () -> x.copy(INT, 0, 4));
    }

    private static void promise4() {
        Modrings x = Made.ints(IMIN, 6);
        Check.same("4", x.widen(2, 0), -1);
        Check.isLong("4", x, 2, IMIN);
        Check.same("4", x.widen(2, 1), 1);
        Check.isLong("4", x, 2, 6);
        Check.same("4", x.widen(2, 3), 0);
        Check.noIndex("4 widen k", x, () -> x.widen(-1, 0));
        Check.noIndex("4 widen from", x, () -> x.widen(0, 4));
    }

    private static void promise5() {
        Modrings x = Made.longs(IMAX, IMAX + 1L, IMIN, IMIN - 1L);
        Check.same("5 greatest", x.narrow(0, 0), 1);
        Check.isInt("5", x, 0, IMAX);
        Check.same("5 beyond", x.narrow(0, 1), REFUSED);
        Check.isInt("5 nothing changes", x, 0, IMAX);
        Check.same("5 least", x.narrow(1, 2), -1);
        Check.isInt("5", x, 1, IMIN);
        Check.same("5 beyond", x.narrow(1, 3), REFUSED);
        Check.isInt("5 nothing changes", x, 1, IMIN);
        Check.same("5 told twice", x.house(0), 2);
        Check.noIndex("5 narrow k ahead of REFUSED", x, () -> x.narrow(4, 1));
        Check.noIndex("5 narrow from", x, () -> x.narrow(0, -1));
    }

    private static void promise6() {
        Modrings x = Made.ints(IMAX, 1, -1, IMIN);
        Check.same("6 sum beyond", x.exact(INT, 0, 1, 0), REFUSED);
        Check.isInt("6 nothing changes", x, 0, IMAX);
        Check.same("6 sum", x.exact(INT, 0, 2, 0), 1);
        Check.isInt("6", x, 0, IMAX - 1);
        Check.same("6 less beyond", x.exact(INT, 3, 1, 1), REFUSED);
        Check.same("6 less", x.exact(INT, 1, 2, 1), 1);
        Check.isInt("6", x, 1, 2);
        Check.same("6 product beyond", x.exact(INT, 3, 2, 2), REFUSED);
        Check.same("6 product", x.exact(INT, 1, 2, 2), -1);
        Check.isInt("6", x, 1, -2);
        Check.same("6 it less itself", x.exact(INT, 3, 3, 1), 0);
        Modrings z = Made.longs(-5, 3);
        Check.same("6 below 0 less above 0", z.exact(LONG, 0, 1, 1), -1);
        Check.isLong("6", z, 0, -8);
        Check.same("6 above 0 less below 0", z.exact(LONG, 1, 0, 1), 1);
        Check.isLong("6", z, 1, 11);
        Modrings y = Made.longs(LMAX, 1, LMIN, -1);
        Check.same("6 LONG sum beyond", y.exact(LONG, 0, 1, 0), REFUSED);
        Check.same("6 LONG less beyond", y.exact(LONG, 2, 1, 1), REFUSED);
        Check.same("6 LONG product beyond", y.exact(LONG, 2, 3, 2), REFUSED);
        Check.same("6 LONG product beyond, other way", y.exact(LONG, 3, 2, 2), REFUSED);
        Check.isLong("6 nothing changes", y, 2, LMIN);
        Check.same("6 LONG sum", y.exact(LONG, 0, 2, 0), -1);
        Check.isLong("6", y, 0, -1);
        Check.same("6 LONG less", y.exact(LONG, 0, 2, 1), 1);
        Check.isLong("6", y, 0, LMAX);
        Check.same("6 LONG product", y.exact(LONG, 0, 3, 2), -1);
        Check.isLong("6", y, 0, -LMAX);
        Check.same("6 refusals", y.house(0), 4);
        Check.noIndex("6 exact k ahead of what", y, () -> y.exact(LONG, 4, 0, 9));
        Check.noIndex("6 exact from ahead of what", y, () -> y.exact(INT, 0, -1, 3));
        Check.noArgument("6 exact what 3", y, () -> y.exact(LONG, 2, 3, 3));
        Check.noArgument("6 exact what -1", y, () -> y.exact(INT, 0, 0, -1));
    }

    private static void promise7() {
        Modrings x = Made.longs(LMIN, -1, 1, LMAX);
        Check.same("7 sum", x.fits(LONG, 0, 1, 0), false);
        Check.same("7 sum", x.fits(LONG, 0, 3, 0), true);
        Check.same("7 less", x.fits(LONG, 0, 1, 1), true);
        Check.same("7 less", x.fits(LONG, 1, 0, 1), true);
        Check.same("7 less", x.fits(LONG, 2, 0, 1), false);
        Check.same("7 product", x.fits(LONG, 0, 1, 2), false);
        Check.same("7 product", x.fits(LONG, 1, 0, 2), false);
        Check.same("7 product", x.fits(LONG, 0, 2, 2), true);
        Check.same("7 product", x.fits(LONG, 3, 3, 2), false);
        Modrings y = Made.ints(46340, 46341, -46341, IMIN);
        Check.same("7 INT product", y.fits(INT, 0, 0, 2), true);
        Check.same("7 INT product", y.fits(INT, 1, 1, 2), false);
        Check.same("7 INT product", y.fits(INT, 1, 2, 2), false);
        Check.same("7 INT product", y.fits(INT, 0, 2, 2), true);
        Check.same("7 INT less", y.fits(INT, 0, 3, 1), false);
        Check.same("7 nothing is told", x.house(0) + y.house(0), 0);
        Check.noIndex("7 fits a", y, () -> y.fits(INT, 4, 0, 5));
        Check.noIndex("7 fits b", y, () -> y.fits(LONG, 0, 4, 0));
        Check.noArgument("7 fits what 3", y, () -> y.fits(INT, 0, 0, 3));
        Check.noArgument("7 fits what -1", y, () -> y.fits(LONG, 0, 0, -1));
    }

    private static void promise8() {
        Modrings x = Made.ints(IMAX, IMIN, -1, 5);
        Check.same("8 more beyond", x.alone(INT, 0, 0), REFUSED);
        Check.same("8 less beyond", x.alone(INT, 1, 1), REFUSED);
        Check.same("8 0 less it beyond", x.alone(INT, 1, 2), REFUSED);
        Check.isInt("8 nothing changes", x, 0, IMAX);
        Check.isInt("8 nothing changes", x, 1, IMIN);
        Check.same("8 more", x.alone(INT, 2, 0), 0);
        Check.same("8 less", x.alone(INT, 2, 1), -1);
        Check.same("8 0 less it", x.alone(INT, 3, 2), -1);
        Check.isInt("8", x, 3, -5);
        Modrings y = Made.longs(LMAX, LMIN, IMAX);
        Check.same("8 LONG more beyond", y.alone(LONG, 0, 0), REFUSED);
        Check.same("8 LONG less beyond", y.alone(LONG, 1, 1), REFUSED);
        Check.same("8 LONG 0 less it beyond", y.alone(LONG, 1, 2), REFUSED);
        Check.same("8 LONG 0 less it", y.alone(LONG, 0, 2), -1);
        Check.isLong("8", y, 0, -LMAX);
        Check.same("8 LONG more", y.alone(LONG, 2, 0), 1);
        Check.isLong("8", y, 2, IMAX + 1L);
        Check.same("8 refusals", x.house(0) + y.house(0), 6);
        Check.noIndex("8 alone k", y, () -> y.alone(LONG, -1, 3));
        Check.noArgument("8 alone what 3", y, () -> y.alone(LONG, 1, 3));
        Check.noArgument("8 alone what -1", y, () -> y.alone(INT, 1, -1));
    }

    private static void promise9() {
        Modrings x = Made.ints(-1, 2, 0, IMIN);
        Made.putLong(x, 0, LMIN);
        Made.putLong(x, 1, 1L << 32);
        Check.same("9 beyond", x.timesInt(0, 0), REFUSED);
        Check.same("9 beyond", x.timesInt(0, 1), REFUSED);
        Check.isLong("9 nothing changes", x, 0, LMIN);
        Check.same("9 least", x.timesInt(1, 3), -1);
        Check.isLong("9", x, 1, LMIN);
        Check.same("9 by 0", x.timesInt(1, 2), 0);
        Check.same("9 refusals", x.house(0), 2);
        Check.noIndex("9 timesInt k", x, () -> x.timesInt(4, 0));
        Check.noIndex("9 timesInt from", x, () -> x.timesInt(0, 4));
    }

    private static void promise10() {
        Modrings x = Made.ints(IMIN, IMAX, 0, -3);
        Check.same("10", x.full(0, 0, 0), 1);
        Check.isLong("10", x, 0, 1L << 62);
        Check.same("10", x.full(1, 0, 1), -1);
        Check.isLong("10", x, 1, (long) IMIN * IMAX);
        Check.same("10", x.full(1, 0, 2), 0);
        Check.same("10", x.full(3, 3, 3), 1);
        Check.isLong("10", x, 3, 9);
        Check.noIndex("10 full k", x, () -> x.full(4, 0, 0));
        Check.noIndex("10 full a", x, () -> x.full(0, -1, 0));
        Check.noIndex("10 full b", x, () -> x.full(0, 0, 4));
    }

    private static void promise11() {
        Modrings x = Made.longs(LMIN, LMAX, -1, 0);
        Check.same("11", x.high(3, 0, 0), 1);
        Check.isLong("11", x, 3, 1L << 62);
        Check.same("11", x.high(3, 0, 1), -1);
        Check.isLong("11", x, 3, -(1L << 62));
        Check.same("11", x.high(3, 1, 1), 1);
        Check.isLong("11", x, 3, (1L << 62) - 1);
        Check.same("11", x.high(3, 2, 2), 0);
        Check.same("11", x.high(3, 2, 1), -1);
        Check.isLong("11", x, 3, -1);
        Made.putLong(x, 3, 0x00000001FFFFFFFFL);
        Made.putLong(x, 2, 0x7FFFFFFFFFFFFFFFL);
        Check.same("11 k among them", x.high(3, 3, 2), 1);
        Check.isLong("11", x, 3, 0xFFFFFFFFL);
        Check.noIndex("11 high k", x, () -> x.high(-1, 0, 0));
        Check.noIndex("11 high a", x, () -> x.high(0, 4, 0));
        Check.noIndex("11 high b", x, () -> x.high(0, 0, 4));
    }

    private static void promise12() {
        Modrings x = Made.ints(IMAX, 1, IMIN, 65536);
        Check.same("12 sum", x.round(INT, 0, 1, 0), -1);
        Check.isInt("12", x, 0, IMIN);
        Check.same("12 less", x.round(INT, 0, 1, 1), 1);
        Check.isInt("12", x, 0, IMAX);
        Check.same("12 product", x.round(INT, 3, 3, 2), 0);
        Check.same("12 product", x.round(INT, 0, 2, 2), -1);
        Check.isInt("12", x, 0, IMIN);
        Modrings y = Made.longs(LMAX, 1, 1L << 32, -3);
        Check.same("12 LONG sum", y.round(LONG, 0, 1, 0), -1);
        Check.isLong("12", y, 0, LMIN);
        Check.same("12 LONG less", y.round(LONG, 0, 1, 1), 1);
        Check.same("12 LONG product", y.round(LONG, 2, 2, 2), 0);
        Check.same("12 LONG product", y.round(LONG, 0, 3, 2), -1);
        Check.isLong("12", y, 0, LMAX * -3);
        Check.same("12 nothing is told", x.house(0) + y.house(0), 0);
        Check.noIndex("12 round k", y, () -> y.round(LONG, 4, 0, 3));
        Check.noIndex("12 round from", y, () -> y.round(INT, 0, 4, 3));
        Check.noArgument("12 round what 3", y, () -> y.round(LONG, 0, 1, 3));
        Check.noArgument("12 round what -1", y, () -> y.round(LONG, 0, 1, -1));
    }

    private static void promise13() {
        Modrings x = Made.ints(IMIN, -7, 7, 0);
        Check.same("13 least", x.abs(INT, 0), -1);
        Check.isInt("13", x, 0, IMIN);
        Check.same("13", x.abs(INT, 1), 1);
        Check.isInt("13", x, 1, 7);
        Check.same("13", x.abs(INT, 2), 1);
        Check.isInt("13", x, 2, 7);
        Check.same("13", x.abs(INT, 3), 0);
        Modrings y = Made.longs(LMIN, IMIN);
        Check.same("13 LONG least", y.abs(LONG, 0), -1);
        Check.isLong("13", y, 0, LMIN);
        Check.same("13 LONG", y.abs(LONG, 1), 1);
        Check.isLong("13", y, 1, 1L << 31);
        Check.noIndex("13 abs", y, () -> y.abs(LONG, 4));
        Check.noIndex("13 abs", y, () -> y.abs(INT, -1));
    }

    private static void promise14() {
        Modrings x = Made.ints(IMIN, IMAX, 5, 5);
        Check.same("14 greater", x.extreme(INT, 0, 1, true), 1);
        Check.isInt("14", x, 0, IMAX);
        Check.same("14 greater already", x.extreme(INT, 1, 2, true), 0);
        Check.isInt("14", x, 1, IMAX);
        Check.same("14 lesser", x.extreme(INT, 1, 2, false), 1);
        Check.isInt("14", x, 1, 5);
        Check.same("14 the same", x.extreme(INT, 2, 3, true), 0);
        Modrings y = Made.longs(LMIN, LMAX, -1);
        Check.same("14 LONG lesser", y.extreme(LONG, 2, 0, false), 1);
        Check.isLong("14", y, 2, LMIN);
        Check.same("14 LONG itself", y.extreme(LONG, 1, 1, false), 0);
        Check.noIndex("14 extreme k", y, () -> y.extreme(LONG, 4, 0, true));
        Check.noIndex("14 extreme from", y, () -> y.extreme(INT, 0, -1, false));
    }

    private static void floorCase(int w, int v, int quotient, int rest) {
        String what = "15 " + w + " by " + v;
        Modrings x = Made.ints(w, v, w);
        Made.putLong(x, 0, w);
        Made.putLong(x, 1, v);
        Made.putLong(x, 2, w);
        Check.same(what, x.floor(INT, 0, 1, false), Integer.signum(quotient));
        Check.same(what, x.floor(INT, 2, 1, true), Integer.signum(rest));
        Check.isInt(what, x, 0, quotient);
        Check.isInt(what, x, 2, rest);
        Check.isInt(what, x, 1, v);
        x.floor(LONG, 0, 1, false);
        x.floor(LONG, 2, 1, true);
        Check.isLong(what, x, 0, w == IMIN && v == -1 ? 1L << 31 : quotient);
        Check.isLong(what, x, 2, rest);
    }

    private static void promise15() {
        floorCase(7, 2, 3, 1);
        floorCase(-7, 2, -4, 1);
        floorCase(7, -2, -4, -1);
        floorCase(-7, -2, 3, -1);
        floorCase(-6, 2, -3, 0);
        floorCase(IMIN, -1, IMIN, 0);
        floorCase(IMIN, IMAX, -2, IMAX - 1);
        Modrings x = Made.longs(LMIN, -1, 0);
        Check.same("15 least by -1", x.floor(LONG, 0, 1, false), -1);
        Check.isLong("15", x, 0, LMIN);
        Check.same("15 by 0", x.floor(LONG, 0, 2, false), REFUSED);
        Check.same("15 by 0", x.floor(LONG, 0, 2, true), REFUSED);
        Check.isLong("15 nothing changes", x, 0, LMIN);
        Check.same("15 0 by itself", x.floor(LONG, 2, 2, true), REFUSED);
        Check.same("15 refusals", x.house(0), 3);
        Check.same("15 by itself", x.floor(LONG, 0, 0, false), 1);
        Check.isLong("15", x, 0, 1);
        Check.noIndex("15 floor k ahead of REFUSED", x, () -> x.floor(LONG, 4, 2, true));
        Check.noIndex("15 floor from", x, () -> x.floor(INT, 0, 4, true));
    }

    private static void promise16() {
        Modrings x = Made.ints(-3, 0, -1, IMIN);
        Made.putLong(x, 0, 10);
        Check.same("16", x.floorInt(0, 0, false), -1);
        Check.isLong("16", x, 0, -4);
        Check.same("16 rest", x.floorInt(0, 0, true), -1);
        Check.isLong("16", x, 0, -1);
        Check.same("16 by 0", x.floorInt(0, 1, true), REFUSED);
        Made.putLong(x, 1, LMIN);
        Check.same("16 by 0", x.floorInt(1, 1, false), REFUSED);
        Check.same("16 least by -1", x.floorInt(1, 2, false), -1);
        Check.isLong("16", x, 1, LMIN);
        Check.same("16", x.floorInt(1, 3, false), 1);
        Check.isLong("16", x, 1, 1L << 32);
        Made.putLong(x, 2, -3);
        Check.same("16 rest", x.floorInt(2, 3, true), -1);
        Check.isLong("16", x, 2, -3);
        Check.same("16 refusals", x.house(0), 2);
        Check.noIndex("16 floorInt k ahead of REFUSED", x, () -> x.floorInt(-1, 1, false));
        Check.noIndex("16 floorInt from", x, () -> x.floorInt(0, 4, false));
    }

    private static void towardsCase(int w, int v, int quotient, int rest) {
        String what = "17 " + w + " by " + v;
        Modrings x = Made.ints(w, v, w);
        Check.same(what, x.towards(INT, 0, 1, false), Integer.signum(quotient));
        Check.same(what, x.towards(INT, 2, 1, true), Integer.signum(rest));
        Check.isInt(what, x, 0, quotient);
        Check.isInt(what, x, 2, rest);
    }

    private static void promise17() {
        towardsCase(7, 2, 3, 1);
        towardsCase(-7, 2, -3, -1);
        towardsCase(7, -2, -3, 1);
        towardsCase(-7, -2, 3, -1);
        towardsCase(IMIN, -1, IMIN, 0);
        Modrings x = Made.longs(LMIN, -1, 0, LMIN + 1);
        Check.same("17 least by -1", x.towards(LONG, 0, 1, false), -1);
        Check.isLong("17", x, 0, LMIN);
        Check.same("17 by 0", x.towards(LONG, 0, 2, true), REFUSED);
        Check.same("17 by 0", x.towards(LONG, 0, 2, false), REFUSED);
        Check.isLong("17 nothing changes", x, 0, LMIN);
        Check.same("17 rest", x.towards(LONG, 0, 3, true), -1);
        Check.isLong("17", x, 0, -1);
        Check.same("17 refusals", x.house(0), 2);
        Check.noIndex("17 towards k ahead of REFUSED", x, () -> x.towards(LONG, 4, 2, true));
        Check.noIndex("17 towards from", x, () -> x.towards(INT, 0, -1, true));
    }

    private static void averageCase(int a, int b, int down, int up) {
        String what = "18 " + a + " and " + b;
        Modrings x = Made.ints(a, b, a);
        Check.same(what, x.average(INT, 0, 1, false), Integer.signum(down));
        Check.same(what, x.average(INT, 2, 1, true), Integer.signum(up));
        Check.isInt(what, x, 0, down);
        Check.isInt(what, x, 2, up);
    }

    private static void promise18() {
        averageCase(4, 8, 6, 6);
        averageCase(5, 8, 6, 7);
        averageCase(-5, 8, 1, 2);
        averageCase(-5, 4, -1, 0);
        averageCase(IMIN, IMAX, -1, 0);
        averageCase(IMAX, IMAX - 1, IMAX - 1, IMAX);
        averageCase(IMIN, IMIN, IMIN, IMIN);
        Modrings x = Made.longs(LMIN, LMAX, LMAX - 1, LMIN + 1);
        Check.same("18 LONG", x.average(LONG, 2, 1, true), 1);
        Check.isLong("18", x, 2, LMAX);
        Check.same("18 LONG", x.average(LONG, 3, 0, false), -1);
        Check.isLong("18", x, 3, LMIN);
        Check.same("18 LONG", x.average(LONG, 0, 1, false), -1);
        Check.isLong("18", x, 0, -1);
        Check.noIndex("18 average k", x, () -> x.average(LONG, 4, 0, true));
        Check.noIndex("18 average from", x, () -> x.average(INT, 0, 4, true));
    }

    private static void promise19() {
        Modrings x = Made.longs(1000, -1, LMIN, LMAX);
        Check.same("19", x.chain(0, 3, 7, 2), 1);
        Check.isLong("19", x, 0, 23);
        Check.same("19 -1 stays", x.chain(1, IMAX, 2, 3), -1);
        Check.isLong("19", x, 1, -1);
        Check.same("19 by 1", x.chain(2, 1, 1, 1), -1);
        Check.isLong("19", x, 2, LMIN);
        Check.same("19", x.chain(3, IMAX, IMAX, 3), 0);
        Check.same("19", x.chain(0, 23, 1, 2), 0);
        Check.noIndex("19 chain k ahead", x, () -> x.chain(4, 0, 1, 1));
        Check.noArgument("19 chain a", x, () -> x.chain(2, 0, 1, 1));
        Check.noArgument("19 chain b", x, () -> x.chain(2, 1, -1, 1));
        Check.noArgument("19 chain c", x, () -> x.chain(2, 2, 1, IMIN));
    }

    private static void promise20() {
        Modrings x = Made.longs(1000, -1, LMIN, LMAX);
        Check.same("20", x.atOnce(0, 3, 7, 2), 1);
        Check.isLong("20", x, 0, 23);
        Check.same("20 -1 stays", x.atOnce(1, IMAX, 2, 2), -1);
        Check.same("20 beyond", x.atOnce(3, IMAX, IMAX, 3), REFUSED);
        Check.isLong("20 nothing changes", x, 3, LMAX);
        Check.same("20 just within", x.atOnce(3, IMAX, IMAX, 2), 1);
        Check.isLong("20", x, 3, 1);
        Check.same("20 beyond", x.atOnce(2, IMAX, IMAX, IMAX), REFUSED);
        Check.same("20 beyond by one", x.atOnce(2, 1 << 30, 1 << 30, 8), REFUSED);
        Check.same("20", x.atOnce(2, 1 << 30, 1 << 30, 4), -1);
        Check.isLong("20", x, 2, -2);
        Check.same("20 refusals", x.house(0), 3);
        Check.noIndex("20 atOnce k ahead", x, () -> x.atOnce(-1, 0, 1, 1));
        Check.noArgument("20 atOnce a ahead of REFUSED", x, () -> x.atOnce(0, -1, IMAX, IMAX));
        Check.noArgument("20 atOnce b", x, () -> x.atOnce(0, 1, 0, 1));
        Check.noArgument("20 atOnce c", x, () -> x.atOnce(0, 1, 1, 0));
    }

    private static void promise21() {
        Modrings x = Made.longs(LMIN, LMAX, -5, 0);
        Check.same("21 all", x.distance(LONG, 0, 1), "18446744073709551615");
        Check.same("21 all, other way", x.distance(LONG, 1, 0), "18446744073709551615");
        Check.same("21", x.distance(LONG, 0, 3), "9223372036854775808");
        Check.same("21", x.distance(LONG, 2, 3), "5");
        Check.same("21 the same", x.distance(LONG, 2, 2), "0");
        Modrings y = Made.ints(IMIN, IMAX, 90);
        Check.same("21 INT all", y.distance(INT, 1, 0), "4294967295");
        Check.same("21 INT", y.distance(INT, 2, 3), "90");
        Check.noIndex("21 distance a", y, () -> y.distance(INT, 4, 0));
        Check.noIndex("21 distance b", y, () -> y.distance(LONG, 0, -1));
    }

    private static void promise22() {
        Modrings x = Made.longs(LMIN, LMAX, -5, 0);
        Check.same("22", x.compare(LONG, 0, 1), -1);
        Check.same("22", x.compare(LONG, 1, 0), 1);
        Check.same("22", x.compare(LONG, 2, 2), 0);
        Check.same("22 kinds", x.compare(INT, 0, 1), 0);
        Modrings y = Made.ints(IMIN, IMAX, -1, -1);
        Check.same("22 INT", y.compare(INT, 0, 1), -1);
        Check.same("22 INT", y.compare(INT, 2, 0), 1);
        Check.same("22 INT", y.compare(INT, 2, 3), 0);
        Check.noIndex("22 compare a", y, () -> y.compare(INT, -1, 0));
        Check.noIndex("22 compare b", y, () -> y.compare(LONG, 0, 4));
    }

    private static void promise23() {
        Modrings x = Made.longs(LMIN, LMAX, -10, 0);
        for (long value : new long[] {LMIN, LMAX, -10, 0, 9, -1, 1000000000000L, -99}) {
            Made.putLong(x, 0, value);
            Check.same("23", x.text(LONG, 0), Long.toString(value));
        }
        for (int value : new int[] {IMIN, IMAX, 0, 10, -9, 99}) {
            x.put(INT, 1, 0, value);
            Check.same("23 INT", x.text(INT, 1), Integer.toString(value));
        }
        Check.noIndex("23 text", x, () -> x.text(LONG, 4));
        Check.noIndex("23 text", x, () -> x.text(INT, -1));
    }

    private static void ofCase(boolean isLong, long value, int sign, int round, int upper, int edge, int signs) {
        Modrings x = isLong ? Made.longs(value) : Made.ints((int) value);
        String what = "24 of " + value + " ";
        int[] due = {sign, round, upper, edge, signs};
        for (int i = 0; i < due.length; i++) {
            Check.same(what + i, x.ofNumber(isLong, 0, i), due[i]);
        }
    }

    private static void promise24() {
        ofCase(INT, 0, 0, 0, 0, 0, 1);
        ofCase(INT, -1, -1, -1, -1, 0, 2);
        ofCase(INT, 10, 1, 10, 0, 0, 2);
        ofCase(INT, IMIN, -1, IMIN, -1, -1, 11);
        ofCase(INT, IMAX, 1, IMAX, 0, 1, 10);
        ofCase(LONG, IMAX, 1, IMAX, 0, 0, 10);
        ofCase(LONG, IMIN, -1, IMIN, -1, 0, 11);
        ofCase(LONG, LMIN, -1, 0, IMIN, -1, 20);
        ofCase(LONG, LMAX, 1, -1, IMAX, 1, 19);
        ofCase(LONG, (5L << 32) + 3000000000L, 1, (int) 3000000000L, 5, 0, 11);
        ofCase(LONG, 99, 1, 99, 0, 0, 2);
        Modrings x = new Modrings();
        Check.noIndex("24 ofNumber k ahead", x, () -> x.ofNumber(LONG, 4, 5));
        Check.noIndex("24 ofNumber k", x, () -> x.ofNumber(INT, -1, 0));
        Check.noArgument("24 ofNumber what 5", x, () -> x.ofNumber(LONG, 0, 5));
        Check.noArgument("24 ofNumber what -1", x, () -> x.ofNumber(INT, 0, -1));
    }

    private static void promise25() {
        Modrings x = Made.longs(-7, LMIN, LMAX, 14);
        Check.same("25", x.rest(LONG, 0, 3), 2);
        Check.same("25", x.rest(LONG, 0, -3), -1);
        Check.same("25", x.rest(LONG, 3, -7), 0);
        Check.same("25", x.rest(LONG, 3, -4), -2);
        Check.same("25", x.rest(LONG, 1, -1), 0);
        Check.same("25", x.rest(LONG, 2, IMIN), -1);
        Check.same("25", x.rest(LONG, 1, IMAX), 2147483645);
        x.put(INT, 2, 0, IMIN);
        Check.same("25 INT", x.rest(INT, 2, IMAX), 2147483646);
        Check.isLong("25 nothing changes", x, 0, -7);
        Check.noIndex("25 rest k ahead", x, () -> x.rest(LONG, 4, 0));
        Check.noArgument("25 rest by 0", x, () -> x.rest(LONG, 0, 0));
        Check.same("25 nothing is told", x.house(0), 0);
    }

    private static void promise26() {
        Modrings x = Made.longs(-7, LMIN, LMAX, 14);
        Check.same("26", x.quotient(LONG, 0, 3), "-3");
        Check.same("26", x.quotient(LONG, 0, -3), "2");
        Check.same("26", x.quotient(LONG, 3, -4), "-4");
        Check.same("26 least by -1", x.quotient(LONG, 1, -1), "-9223372036854775808");
        Check.same("26", x.quotient(LONG, 2, -1), "-9223372036854775807");
        x.put(INT, 2, 0, IMIN);
        Check.same("26 INT least by -1", x.quotient(INT, 2, -1), "-2147483648");
        Check.same("26 INT", x.quotient(INT, 2, IMIN), "1");
        Made.putLong(x, 3, IMIN);
        Check.same("26 LONG of that", x.quotient(LONG, 3, -1), "2147483648");
        Check.noIndex("26 quotient k ahead", x, () -> x.quotient(LONG, -1, 0));
        Check.noArgument("26 quotient by 0", x, () -> x.quotient(INT, 0, 0));
    }

    private static void promise27() {
        Modrings x = Made.ring(100, 7, 12, 99, 0);
        Check.same("27 before", x.modulus(0, 10), 100);
        Check.same("27", x.ringText(0), "10: 7 2 9 0");
        Check.same("27 before", x.modulus(0, -4), 10);
        Check.same("27", x.ringText(0), "-4: -1 -2 -3 0");
        Check.same("27 before", x.modulus(0, IMIN), -4);
        Check.same("27", x.ringText(0), "-2147483648: -1 -2 -3 0");
        Check.same("27 before", x.modulus(0, IMAX), IMIN);
        Check.same("27", x.ringText(0), "2147483647: 2147483646 2147483645 2147483644 0");
        x.modulus(0, -1);
        Check.same("27", x.ringText(0), "-1: 0 0 0 0");
        Check.same("27 the other ones stay", x.ringText(1), "10: 0 0 0 0");
        Check.same("27 at first", x.modulus(2, 5), -12);
        Check.noIndex("27 modulus ring ahead", x, () -> x.modulus(3, 0));
        Check.noIndex("27 modulus ring", x, () -> x.modulus(-1, 4));
        Check.noArgument("27 modulus 0", x, () -> x.modulus(1, 0));
    }

    private static void promise28() {
        Modrings x = Made.longs(LMIN, -1, 25);
        Check.same("28", x.bring(0, 1, LONG, 0), 6);
        Check.same("28", x.bring(1, 3, LONG, 1), 9);
        Check.same("28", x.bring(2, 0, LONG, 2), -11);
        x.put(INT, 3, 0, -25);
        Check.same("28", x.bring(2, 1, INT, 3), -1);
        Check.same("28", x.ringText(0), "7: 0 6 0 0");
        Check.same("28", x.ringText(1), "10: 0 0 0 9");
        Check.same("28", x.ringText(2), "-12: -11 -1 0 0");
        Check.noIndex("28 bring ring", x, () -> x.bring(3, 0, LONG, 0));
        Check.noIndex("28 bring slot", x, () -> x.bring(0, 4, LONG, 0));
        Check.noIndex("28 bring slot", x, () -> x.bring(1, -1, LONG, 0));
        Check.noIndex("28 bring k", x, () -> x.bring(0, 0, LONG, 4));
    }

    private static void promise29() {
        Modrings x = Made.ring(-9, 1, 5, 0);
        Check.same("29", x.lift(0, 0, LONG, 2), -1);
        Check.isLong("29", x, 2, -8);
        Check.same("29", x.lift(0, 2, LONG, 2), 0);
        x.modulus(0, 9);
        Check.same("29", x.lift(0, 1, INT, 1), 1);
        Check.isInt("29", x, 1, 5);
        Check.noIndex("29 lift ring", x, () -> x.lift(-1, 0, LONG, 0));
        Check.noIndex("29 lift slot", x, () -> x.lift(2, 4, LONG, 0));
        Check.noIndex("29 lift k", x, () -> x.lift(0, 0, INT, 4));
    }

    private static void promise30() {
        Modrings x = Made.ring(IMAX, IMAX - 1, IMAX - 2, 1);
        Check.same("30 sum", x.plus(0, 0, 1, false), IMAX - 3);
        Check.same("30 less", x.plus(0, 2, 1, true), 3);
        Check.same("30 itself", x.plus(0, 1, 1, false), IMAX - 4);
        Check.same("30 less itself", x.plus(0, 1, 1, true), 0);
        Check.same("30", x.ringText(0), "2147483647: 2147483644 0 3 0");
        Modrings y = Made.ring(IMIN, 1, -5);
        Check.same("30 below 0", y.plus(0, 0, 1, false), -4);
        Check.same("30 below 0", y.plus(0, 0, 1, true), -2147483647);
        Check.noIndex("30 plus ring", y, () -> y.plus(3, 0, 0, false));
        Check.noIndex("30 plus slot", y, () -> y.plus(0, -1, 0, false));
        Check.noIndex("30 plus other", y, () -> y.plus(0, 0, 4, true));
    }

    private static void promise31() {
        Modrings x = Made.ring(IMAX, IMAX - 1, IMAX - 2, 3);
        Check.same("31", x.times(0, 0, 1), 2);
        Check.same("31 itself", x.times(0, 1, 1), 4);
        Check.same("31", x.times(0, 2, 3), 0);
        Modrings y = Made.ring(IMIN, 1, -5, 3);
        Check.same("31 below 0", y.times(0, 0, 0), -2147483647);
        Check.same("31 below 0", y.times(0, 1, 2), -15);
        Check.same("31", y.ringText(0), "-2147483648: -2147483647 -15 -2147483645 0");
        Check.noIndex("31 times ring", y, () -> y.times(-1, 0, 0));
        Check.noIndex("31 times slot", y, () -> y.times(0, 4, 0));
        Check.noIndex("31 times other", y, () -> y.times(0, 0, -1));
    }

    private static void promise32() {
        Modrings x = Made.ring(1000, 3, 0, 2, 7);
        Check.same("32", x.power(0, 0, 5), 243);
        Check.same("32 0 to 0", x.power(0, 1, 0), 1);
        Check.same("32 by 1", x.power(0, 3, 1), 7);
        Check.same("32", x.power(0, 2, 31), 648);
        Check.same("32", x.ringText(0), "1000: 243 1 648 7");
        x.modulus(0, 1);
        Check.same("32 RESIDUE of 1 by 1", x.power(0, 0, 0), 0);
        Modrings y = Made.ring(IMAX, 3, 2);
        Check.same("32 Fermat", y.power(0, 0, IMAX - 1), 1);
        Check.same("32 round", y.power(0, 1, 31), 1);
        y.modulus(0, -10);
        y.put(INT, 0, 0, 3);
        y.bring(0, 0, INT, 0);
        Check.same("32 below 0", y.power(0, 0, 3), -3);
        Check.same("32 below 0, exponent 0", y.power(0, 0, 0), -9);
        Check.same("32 0 to the greatest", y.power(0, 3, IMAX), 0);
        Check.noIndex("32 power ring ahead", y, () -> y.power(3, 0, -1));
        Check.noIndex("32 power slot ahead", y, () -> y.power(0, 4, -1));
        Check.noArgument("32 power exponent", y, () -> y.power(0, 0, -1));
        Check.noArgument("32 power exponent least", y, () -> y.power(0, 1, IMIN));
    }

    private static void promise33() {
        Modrings x = Made.ring(12, 5, 4, 7, 0);
        Check.same("33", x.inverse(0, 0), 1);
        Check.same("33 none", x.inverse(0, 1), REFUSED);
        Check.same("33", x.inverse(0, 2), 1);
        Check.same("33 none of 0", x.inverse(0, 3), REFUSED);
        Check.same("33", x.ringText(0), "12: 5 4 7 0");
        Check.same("33 refusals", x.house(0), 2);
        Modrings y = Made.ring(IMAX, 2, IMAX - 1, 3);
        y.inverse(0, 0);
        y.inverse(0, 1);
        y.inverse(0, 2);
        Check.same("33", y.ringText(0), "2147483647: 1073741824 2147483646 1431655765 0");
        Modrings z = Made.ring(-7, 3, 1);
        Check.same("33 below 0", z.inverse(0, 0), 1);
        Check.same("33 below 0", z.inverse(0, 1), 1);
        Check.same("33 below 0", z.ringText(0), "-7: -2 -6 0 0");
        z.modulus(0, IMIN);
        Check.same("33 even by 2^31", z.inverse(0, 0), REFUSED);
        z.put(INT, 0, 0, 3);
        z.bring(0, 0, INT, 0);
        Check.same("33 odd by 2^31", z.inverse(0, 0), 1);
        Check.same("33 odd by 2^31", z.residue(0, 0), -1431655765);
        z.modulus(0, 1);
        Check.same("33 0 by 1", z.inverse(0, 0), 1);
        Check.same("33 0 by 1", z.residue(0, 0), 0);
        Check.noIndex("33 inverse ring", z, () -> z.inverse(3, 0));
        Check.noIndex("33 inverse slot", z, () -> z.inverse(1, 4));
    }

    private static void promise34() {
        Modrings x = Made.ring(-12, 5, 4, 1, 0);
        Check.same("34", x.isUnit(0, 0), true);
        Check.same("34", x.isUnit(0, 1), false);
        Check.same("34", x.isUnit(0, 2), true);
        Check.same("34 0", x.isUnit(0, 3), false);
        x.modulus(0, -1);
        Check.same("34 0 by -1", x.isUnit(0, 3), true);
        Check.same("34 nothing is told", x.house(0), 0);
        Check.noIndex("34 isUnit ring", x, () -> x.isUnit(-1, 0));
        Check.noIndex("34 isUnit slot", x, () -> x.isUnit(0, -1));
    }

    private static void promise35() {
        Modrings x = Made.ring(-12, 5, 4);
        Check.same("35", x.residue(0, 0), -7);
        Check.same("35", x.residue(0, 1), -8);
        Check.same("35", x.residue(2, 3), 0);
        Check.noIndex("35 residue ring", x, () -> x.residue(3, 0));
        Check.noIndex("35 residue slot", x, () -> x.residue(0, 4));
        Check.noIndex("35 residue slot", x, () -> x.residue(1, -1));
    }

    private static void promise36() {
        Modrings x = Made.ring(IMIN, 5, -4);
        Check.same("36", x.ringText(0), "-2147483648: -2147483643 -4 0 0");
        Check.same("36", x.ringText(1), "10: 0 0 0 0");
        Check.noIndex("36 ringText", x, () -> x.ringText(3));
        Check.noIndex("36 ringText", x, () -> x.ringText(-1));
    }

    private static void promise37() {
        Modrings x = Made.longs(LMIN, LMIN + 7, -3, 4);
        Check.same("37", x.areAlike(0, LONG, 0, 1), true);
        Check.same("37", x.areAlike(1, LONG, 0, 1), false);
        Check.same("37", x.areAlike(0, LONG, 2, 3), true);
        x.put(INT, 0, 0, -1);
        x.put(INT, 1, 0, 23);
        Check.same("37 INT", x.areAlike(2, INT, 0, 1), true);
        Check.same("37 INT", x.areAlike(0, INT, 0, 1), false);
        Check.same("37 itself", x.areAlike(1, INT, 1, 1), true);
        Check.noIndex("37 areAlike ring", x, () -> x.areAlike(3, LONG, 0, 0));
        Check.noIndex("37 areAlike a", x, () -> x.areAlike(0, LONG, -1, 0));
        Check.noIndex("37 areAlike b", x, () -> x.areAlike(0, INT, 0, 4));
    }

    private static void promise38() {
        Modrings x = new Modrings();
        Made.fill(x, 0, 4, 0, 3);
        Made.fill(x, 1, 7, 1, 0);
        Made.fill(x, 2, 11, 8, 0);
        Check.same("38", x.together(0, 0, 0, 1, 0), 1);
        Check.isLong("38", x, 0, 67);
        Check.same("38 MODULUS below 0", x.together(1, 1, 0, 2, 0), 1);
        Check.isLong("38", x, 1, 47);
        Check.same("38 none", x.together(1, 1, 0, 2, 1), REFUSED);
        Check.isLong("38 nothing changes", x, 1, 47);
        Check.same("38 none in one RING", x.together(1, 0, 0, 0, 2), REFUSED);
        Check.same("38 in one RING", x.together(2, 2, 0, 2, 0), 1);
        Check.isLong("38", x, 2, 11);
        Check.same("38 0", x.together(2, 0, 1, 1, 2), 0);
        Check.isLong("38", x, 2, 0);
        Check.same("38 refusals", x.house(0), 2);
        Modrings y = new Modrings();
        y.modulus(0, IMAX);
        y.modulus(1, IMIN);
        Made.fill(y, 0, -1);
        Made.fill(y, 1, -1);
        Check.same("38 widest", y.together(3, 0, 0, 1, 0), 1);
        Check.isLong("38 widest", y, 3, 4611686016279904255L);
        Check.same("38 widest, other way", y.together(2, 1, 0, 0, 0), 1);
        Check.isLong("38 widest, other way", y, 2, 4611686016279904255L);
        Check.noIndex("38 together k ahead of REFUSED", x, () -> x.together(4, 1, 0, 2, 1));
        Check.noIndex("38 together ring", x, () -> x.together(0, 3, 0, 0, 0));
        Check.noIndex("38 together slot", x, () -> x.together(0, 0, 4, 0, 0));
        Check.noIndex("38 together other", x, () -> x.together(0, 0, 0, -1, 0));
        Check.noIndex("38 together from", x, () -> x.together(0, 0, 0, 0, 4));
    }

    private static void promise39() {
        Modrings x = new Modrings();
        Check.same("39 divisor", x.common(1, 2, false), "2");
        Check.same("39 multiple", x.common(1, 2, true), "60");
        Check.same("39 divisor", x.common(0, 1, false), "1");
        Check.same("39 itself", x.common(2, 2, false), "12");
        Check.same("39 itself", x.common(2, 2, true), "12");
        x.modulus(0, IMAX);
        x.modulus(1, IMIN);
        Check.same("39 widest", x.common(0, 1, true), "4611686016279904256");
        Check.same("39 widest", x.common(1, 1, false), "2147483648");
        Check.same("39 widest", x.common(1, 2, true), "6442450944");
        Check.noIndex("39 common ring", x, () -> x.common(3, 0, true));
        Check.noIndex("39 common other", x, () -> x.common(0, -1, false));
    }

    private static void promise40() {
        Modrings x = Made.ints(1, 0, -1, 0);
        Made.putLong(x, 3, LMIN);
        Check.same("40 zeros", x.house(2), 5);
        Check.same("40 units", x.house(3), 0);
        x.bring(0, 1, INT, 0);
        x.bring(1, 2, INT, 2);
        x.bring(2, 3, INT, 0);
        Check.same("40 units", x.house(3), 3);
        x.modulus(0, 1);
        Check.same("40 units by 1", x.house(3), 6);
        x.alone(LONG, 3, 2);
        x.floor(INT, 0, 1, false);
        x.narrow(0, 3);
        Check.same("40 refusals", x.house(0), 3);
        x.knock();
        x.knock();
        Check.same("40 knocks", x.house(1), 2);
        Check.noArgument("40 house 4", x, () -> x.house(4));
        Check.noArgument("40 house -1", x, () -> x.house(-1));
    }

    private static void promise41() {
        Modrings x = new Modrings();
        for (int times = 1; times <= 5; times++) {
            Check.same("41", x.knock(), times);
        }
        Check.same("41", x.house(1), 5);
        Check.same("41 another one", new Modrings().knock(), 1);
    }

    private static void promise42() {
        long[] edges = {0, 1, -1, 2, -2, IMIN, IMAX, LMIN, LMAX, 1L << 32, -(1L << 31) - 1, LMIN + 1};
        for (long w : edges) {
            for (long v : edges) {
                Modrings x = Made.longs(w, v, v, w);
                x.put(INT, 0, 0, (int) w);
                x.put(INT, 1, 0, (int) v);
                x.put(INT, 2, 0, (int) (w >> 32));
                x.put(INT, 3, 0, (int) (v >> 32));
                int first = (int) w == 0 ? 6 : (int) w;
                int second = (int) v == 0 ? -15 : (int) v;
                x.modulus(0, first);
                x.modulus(1, second);
                x.bring(0, 0, LONG, 1);
                x.bring(1, 0, LONG, 0);
                x.bring(2, 0, INT, 3);
                long before = x.digest();
                Check.same("42 " + w + " and " + v, x.isSound(), true);
                Check.same("42 nothing changes", x.digest(), before);
            }
        }
    }

    private static void promise43() {
        Modrings x = new Modrings();
        Check.same("43 new", x.digest(), Made.digest(x, true));
        x.put(INT, 1, 0, -40);
        Made.putLong(x, 2, LMIN + 12345);
        x.bring(2, 1, LONG, 2);
        x.bring(0, 3, INT, 1);
        x.modulus(1, IMIN);
        x.alone(INT, 0, 2);
        x.floor(INT, 1, 2, true);
        x.knock();
        Check.same("43", x.digest(), Made.digest(x, true));
        Check.same("43 again", x.digest(), Made.digest(x, true));
    }

    public static void main(String[] args) {
        Check.run(PromiseTest.class);
    }
}
