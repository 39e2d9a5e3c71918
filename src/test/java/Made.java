/** Objects in a wanted state, made by the face alone, and what stands in them. */
final class Made {
    static final boolean INT = false;
    static final boolean LONG = true;
    static final boolean[] KINDS = {INT, LONG};
    static final int IMIN = Integer.MIN_VALUE;
    static final int IMAX = Integer.MAX_VALUE;
    static final long LMIN = Long.MIN_VALUE;
    static final long LMAX = Long.MAX_VALUE;

    /** Where state() has what house(0) counts. */
    static final int REFUSALS = 11;

    private Made() {
    }

    static int putLong(Modrings x, int k, long value) {
        return x.put(LONG, k, (int) (value >> 32), (int) value);
    }

    /** Puts a number of either kind; an INT is put with a high that is not to be looked at. */
    static void set(Modrings x, boolean isLong, int k, long value) {
        if (isLong) {
            putLong(x, k, value);
        } else {
            x.put(INT, k, 77, (int) value);
        }
    }

    static Modrings numbers(boolean isLong, long... values) {
        Modrings x = new Modrings();
        for (int k = 0; k < values.length; k++) {
            set(x, isLong, k, values[k]);
        }
        return x;
    }

    static Modrings longs(long... values) {
        return numbers(LONG, values);
    }

    static Modrings ints(long... values) {
        return numbers(INT, values);
    }

    static long least(boolean isLong) {
        return isLong ? LMIN : IMIN;
    }

    static long greatest(boolean isLong) {
        return isLong ? LMAX : IMAX;
    }

    /** A RING 0 with that MODULUS and SLOTS that become these numbers' RESIDUES. */
    static Modrings ring(int modulus, int... values) {
        Modrings x = new Modrings();
        x.modulus(0, modulus);
        fill(x, 0, values);
        return x;
    }

    /** Two RINGS, each with its MODULUS and the RESIDUE of one number in SLOT 0. */
    static Modrings twoRings(int modulus, int value, int otherModulus, int otherValue) {
        Modrings x = ring(modulus, value);
        x.modulus(1, otherModulus);
        fill(x, 1, otherValue);
        return x;
    }

    /** Fills SLOTS; INT 3 is 0 after that. */
    static void fill(Modrings x, int ring, int... values) {
        for (int slot = 0; slot < values.length; slot++) {
            x.put(INT, 3, 0, values[slot]);
            x.bring(ring, slot, INT, 3);
        }
        x.put(INT, 3, 0, 0);
    }

    /** An object of which each part is not as it was at first; number 2 of each kind is 0. */
    static Modrings busy() {
        Modrings x = new Modrings();
        fill(x, 0, 3, 0, 6, 1);
        fill(x, 1, 3, 4, 0, 9);
        fill(x, 2, -5, -4, 0, -1);
        int[] ints = {5, -6, 0, IMAX};
        long[] longs = {LMAX, -7, 0, 1L << 40};
        for (int k = 0; k < 4; k++) {
            x.put(INT, k, 0, ints[k]);
            putLong(x, k, longs[k]);
        }
        x.alone(LONG, 0, 0);
        x.knock();
        x.knock();
        return x;
    }

    static int numberPlace(boolean isLong, int k) {
        return isLong ? 4 + k : k;
    }

    static int ringPlace(int ring) {
        return 8 + ring;
    }

    /** All that an object holds: eight numbers, three RINGS, and what house(0) and house(1) count. */
    static String[] state(Modrings x) {
        String[] parts = new String[13];
        for (int k = 0; k < 4; k++) {
            parts[numberPlace(INT, k)] = x.text(INT, k);
            parts[numberPlace(LONG, k)] = x.text(LONG, k);
        }
        for (int ring = 0; ring < 3; ring++) {
            parts[ringPlace(ring)] = x.ringText(ring);
        }
        parts[REFUSALS] = Integer.toString(x.house(0));
        parts[REFUSALS + 1] = Integer.toString(x.house(1));
        return parts;
    }

    /** What digest() is due to tell, put together from the other answers of the face. */
    static long digest(Modrings x, boolean isSound) {
        long d = 7837;
        for (int what = 0; what < 4; what++) {
            d = d * 31 + x.house(what);
        }
        for (boolean isLong : KINDS) {
            for (int k = 0; k < 4; k++) {
                for (int what = 0; what < 5; what++) {
                    d = d * 31 + x.ofNumber(isLong, k, what);
                }
            }
        }
        for (int ring = 0; ring < 3; ring++) {
            String line = x.ringText(ring);
            d = d * 31 + Long.parseLong(line.substring(0, line.indexOf(':')));
            for (int slot = 0; slot < 4; slot++) {
                d = d * 31 + x.residue(ring, slot);
            }
        }
        return d * 31 + (isSound ? 1 : 0);
    }
}
