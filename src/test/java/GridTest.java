/** Each number of a list of edges with each other one, by each method that takes two, against Model. */
public final class GridTest {
    private static final int IMIN = Made.IMIN;
    private static final int IMAX = Made.IMAX;
    private static final int PAIR_CALLS = 26;
    private static final int SLOT_CALLS = 6;

    private static final int[] INTS = {0, 1, -1, 2, -2, 3, -3, 7, -10, 46340, 46341, -46341, 65535, 65536, -65536,
        1 << 30, -(1 << 30), (1 << 30) + 1, IMAX - 1, IMAX, -IMAX, IMIN};
    private static final long[] LONGS = {0, 1, -1, 2, -2, 3, -3, 30, -30, IMAX, IMIN, IMAX + 1L, IMIN - 1L,
        3037000499L, 3037000500L, -3037000500L, 4294967295L, 4294967296L, -4294967296L, 4294967297L,
        1L << 62, -(1L << 62), (1L << 62) + 1, Made.LMAX / 3, Made.LMAX - 1, Made.LMAX, -Made.LMAX, Made.LMIN};
    private static final int[] MODULI = {1, -1, 2, -2, 3, 4, -6, 7, 10, -12, 30, 65536, -65537, 1 << 30, -(1 << 30),
        IMAX - 1, IMAX, -IMAX, IMIN + 2, IMIN};
    private static final int[] EXPONENTS = {0, 1, 2, 3, 30, 31, 32, 65537, 1 << 30, IMAX - 1, IMAX};

    /** Puts a number to both objects. */
    private static void set(Modrings x, Model m, boolean isLong, int k, long value) {
        Made.set(x, isLong, k, value);
        m.put(isLong, k, (int) (value >> 32), (int) value);
    }

    private static Object ask(Modrings x, boolean isLong, int call) {
        if (call < 9) {
            int what = call % 3;
            return call < 3 ? x.exact(isLong, 0, 1, what) : call < 6 ? x.fits(isLong, 0, 1, what)
                    : x.round(isLong, 0, 1, what);
        }
        switch (call) {
            case 9: return x.alone(isLong, 0, 0);
            case 10: return x.alone(isLong, 0, 1);
            case 11: return x.alone(isLong, 0, 2);
            case 12: return x.abs(isLong, 0);
            case 13: return x.extreme(isLong, 0, 1, true);
            case 14: return x.extreme(isLong, 0, 1, false);
            case 15: return x.floor(isLong, 0, 1, false);
            case 16: return x.floor(isLong, 0, 1, true);
            case 17: return x.towards(isLong, 0, 1, false);
            case 18: return x.towards(isLong, 0, 1, true);
            case 19: return x.average(isLong, 0, 1, false);
            case 20: return x.average(isLong, 0, 1, true);
            case 21: return x.distance(isLong, 0, 1);
            case 22: return x.compare(isLong, 0, 1);
            case 23: return isLong ? x.high(2, 0, 1) : x.full(2, 0, 1);
            case 24: return isLong ? x.narrow(0, 1) : x.widen(0, 1);
            default: return x.isSound();
        }
    }

    private static Object tell(Model m, boolean isLong, int call) {
        if (call < 9) {
            int what = call % 3;
            return call < 3 ? m.exact(isLong, 0, 1, what) : call < 6 ? m.fits(isLong, 0, 1, what)
                    : m.round(isLong, 0, 1, what);
        }
        switch (call) {
            case 9: return m.alone(isLong, 0, 0);
            case 10: return m.alone(isLong, 0, 1);
            case 11: return m.alone(isLong, 0, 2);
            case 12: return m.abs(isLong, 0);
            case 13: return m.extreme(isLong, 0, 1, true);
            case 14: return m.extreme(isLong, 0, 1, false);
            case 15: return m.floor(isLong, 0, 1, false);
            case 16: return m.floor(isLong, 0, 1, true);
            case 17: return m.towards(isLong, 0, 1, false);
            case 18: return m.towards(isLong, 0, 1, true);
            case 19: return m.average(isLong, 0, 1, false);
            case 20: return m.average(isLong, 0, 1, true);
            case 21: return m.distance(isLong, 0, 1);
            case 22: return m.compare(isLong, 0, 1);
            case 23: return isLong ? m.high(2, 0, 1) : m.full(2, 0, 1);
            case 24: return isLong ? m.narrow(0, 1) : m.widen(0, 1);
            default: return true;
        }
    }

    private static void pairOf(boolean isLong, long a, long b) {
        Modrings x = new Modrings();
        Model m = new Model();
        set(x, m, isLong, 1, b);
        for (int call = 0; call < PAIR_CALLS; call++) {
            set(x, m, isLong, 0, a);
            String what = "call " + call + " of " + a + " and " + b + ", LONGS " + isLong;
            Check.same(what, ask(x, isLong, call), tell(m, isLong, call));
            Check.same(what + ", digest", x.digest(), m.digest());
        }
    }

    static void twoInts() {
        for (int a : INTS) {
            for (int b : INTS) {
                pairOf(false, a, b);
            }
        }
    }

    static void twoLongs() {
        for (long a : LONGS) {
            for (long b : LONGS) {
                pairOf(true, a, b);
            }
        }
    }

    /** A LONG and an INT, the INT also as an argument: a divisor or a MODULUS. */
    static void aLongAndAnInt() {
        for (long a : LONGS) {
            for (int b : INTS) {
                Modrings x = new Modrings();
                Model m = new Model();
                String what = a + " and " + b;
                set(x, m, false, 1, b);
                set(x, m, true, 0, a);
                Check.same("timesInt " + what, x.timesInt(0, 1), m.timesInt(0, 1));
                set(x, m, true, 0, a);
                Check.same("floorInt " + what, x.floorInt(0, 1, false), m.floorInt(0, 1, false));
                Check.same("floorInt " + what, x.text(true, 0), m.text(true, 0));
                set(x, m, true, 0, a);
                Check.same("floorInt, rest " + what, x.floorInt(0, 1, true), m.floorInt(0, 1, true));
                Check.same("floorInt, rest " + what, x.text(true, 0), m.text(true, 0));
                set(x, m, true, 0, a);
                if (b != 0) {
                    Check.same("rest " + what, x.rest(true, 0, b), m.rest(true, 0, b));
                    Check.same("quotient " + what, x.quotient(true, 0, b), m.quotient(true, 0, b));
                    Check.same("modulus " + what, x.modulus(0, b), m.modulus(0, b));
                    Check.same("bring " + what, x.bring(0, 0, true, 0), m.bring(0, 0, true, 0));
                }
                Check.same("digest " + what, x.digest(), m.digest());
            }
        }
    }

    private static Object askSlots(Modrings x, int call) {
        switch (call) {
            case 0: return x.plus(0, 0, 1, false);
            case 1: return x.plus(0, 0, 1, true);
            case 2: return x.times(0, 0, 1);
            case 3: return x.inverse(0, 0);
            case 4: return x.together(0, 0, 0, 0, 1);
            default: return x.isUnit(0, 0);
        }
    }

    private static Object tellSlots(Model m, int call) {
        switch (call) {
            case 0: return m.plus(0, 0, 1, false);
            case 1: return m.plus(0, 0, 1, true);
            case 2: return m.times(0, 0, 1);
            case 3: return m.inverse(0, 0);
            case 4: return m.together(0, 0, 0, 0, 1);
            default: return m.isUnit(0, 0);
        }
    }

    private static void bring(Modrings x, Model m, int ring, int slot, int value) {
        set(x, m, false, 0, value);
        Check.same("bring " + value, x.bring(ring, slot, false, 0), m.bring(ring, slot, false, 0));
    }

    static void twoSlots() {
        for (int modulus : MODULI) {
            for (int a : INTS) {
                for (int b : INTS) {
                    Modrings x = new Modrings();
                    Model m = new Model();
                    x.modulus(0, modulus);
                    m.modulus(0, modulus);
                    bring(x, m, 0, 1, b);
                    for (int call = 0; call < SLOT_CALLS; call++) {
                        bring(x, m, 0, 0, a);
                        String what = "call " + call + " of " + a + " and " + b + " by " + modulus;
                        Check.same(what, askSlots(x, call), tellSlots(m, call));
                        Check.same(what + ", digest", x.digest(), m.digest());
                    }
                }
            }
        }
    }

    static void powers() {
        for (int modulus : MODULI) {
            for (int base : INTS) {
                Modrings x = new Modrings();
                Model m = new Model();
                x.modulus(0, modulus);
                m.modulus(0, modulus);
                for (int exponent : EXPONENTS) {
                    bring(x, m, 0, 0, base);
                    String what = base + " to " + exponent + " by " + modulus;
                    Check.same(what, x.power(0, 0, exponent), m.power(0, 0, exponent));
                }
            }
        }
    }

    static void twoRings() {
        for (int modulus : MODULI) {
            for (int other : MODULI) {
                Modrings x = new Modrings();
                Model m = new Model();
                x.modulus(0, modulus);
                m.modulus(0, modulus);
                x.modulus(1, other);
                m.modulus(1, other);
                String what = " of " + modulus + " and " + other;
                Check.same("divisor" + what, x.common(0, 1, false), m.common(0, 1, false));
                Check.same("multiple" + what, x.common(0, 1, true), m.common(0, 1, true));
                for (int a : new int[] {0, 1, -1, 5, IMIN / 2}) {
                    for (int b : new int[] {0, 1, -1, 8, IMAX / 2}) {
                        bring(x, m, 0, 0, a);
                        bring(x, m, 1, 0, b);
                        Check.same("together" + what, x.together(1, 0, 0, 1, 0), m.together(1, 0, 0, 1, 0));
                        Check.same("together" + what + ", digest", x.digest(), m.digest());
                    }
                }
                Check.same("back" + what, x.modulus(0, other), m.modulus(0, other));
                Check.same("back" + what + ", digest", x.digest(), m.digest());
            }
        }
    }

    public static void main(String[] args) {
        Check.run(GridTest.class);
    }
}
