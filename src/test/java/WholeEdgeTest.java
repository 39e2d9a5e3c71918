/** The sentences of promises 40 to 43 that name an edge; each state is looked at by the face alone. */
public final class WholeEdgeTest {
    private static final boolean INT = Made.INT;
    private static final boolean LONG = Made.LONG;
    private static final int IMIN = Made.IMIN;
    private static final int IMAX = Made.IMAX;
    private static final long LMIN = Made.LMIN;
    private static final long LMAX = Made.LMAX;

    // ---- 40: house

    static void houseOfANewObject() {
        int[] want = {0, 0, 8, 0};
        for (int what = 0; what < 4; what++) {
            Modrings x = new Modrings();
            int choice = what;
            Check.asks("40 of a new object, " + what, x, want[what], () -> x.house(choice));
        }
    }

    static void howManyNumbersAreZero() {
        Modrings x = new Modrings();
        int due = 8;
        for (boolean isLong : Made.KINDS) {
            for (int k = 0; k < 4; k++) {
                Made.set(x, isLong, k, k == 0 ? -1 : Made.least(isLong));
                due--;
                Check.same("40 zeros", x.house(2), due);
            }
        }
        Made.putLong(x, 3, 1L << 32);
        Check.same("40 a LONG of which the lower half is 0", x.house(2), 0);
        Made.putLong(x, 3, 1);
        Check.same("40 a LONG of which the upper half is 0", x.house(2), 0);
        Made.putLong(x, 3, 0);
        Check.same("40 0 again", x.house(2), 1);
    }

    static void howManySlotsHaveAnInverse() {
        Modrings x = new Modrings();
        Made.fill(x, 0, 1, 2, 3, 6);
        Check.same("40 by 7", x.house(3), 4);
        Made.fill(x, 1, 1, 2, 5, 9);
        Check.same("40 by 10", x.house(3), 6);
        Made.fill(x, 2, -1, -5, -6, -8);
        Check.same("40 by -12", x.house(3), 8);
    }

    static void allSlotsHaveAnInverseByOneAndMinusOne() {
        Modrings x = new Modrings();
        x.modulus(0, 1);
        Check.same("40 one RING", x.house(3), 4);
        x.modulus(1, -1);
        Check.same("40 two RINGS", x.house(3), 8);
        x.modulus(2, 1);
        Check.same("40 all twelve", x.house(3), 12);
    }

    static void slotsByTheLeastInt() {
        Modrings x = Made.ring(IMIN, -1, IMIN + 1, -2, 0);
        Check.same("40 odd ones alone", x.house(3), 2);
    }

    static void askingDoesNotCount() {
        Modrings x = Made.busy();
        for (int what = 0; what < 4; what++) {
            int choice = what;
            Check.asks("40 house " + what, x, x.house(what), () -> x.house(choice));
        }
    }

    // ---- 41: knock

    static void knockTellsWithThis() {
        Modrings x = new Modrings();
        for (int times = 1; times <= 100; times++) {
            Check.same("41 knock", x.knock(), times);
            Check.same("41 house of it", x.house(1), times);
        }
    }

    static void knockChangesNothingElse() {
        Modrings x = Made.busy();
        String[] due = Made.state(x);
        due[Made.REFUSALS + 1] = "3";
        Check.same("41 knock", x.knock(), 3);
        Check.same("41 the state then", String.join(",", Made.state(x)), String.join(",", due));
    }

    static void knocksAndRefusedAreCountedApart() {
        Modrings x = new Modrings();
        x.knock();
        x.knock();
        x.inverse(0, 0);
        Check.same("40 REFUSED", x.house(0), 1);
        Check.same("40 knocks", x.house(1), 2);
    }

    // ---- 42: isSound

    static void aNewObjectIsSound() {
        Modrings x = new Modrings();
        Check.asks("42 new", x, true, () -> x.isSound());
    }

    static void allNumbersAtABoundAreSound() {
        for (boolean isLeast : new boolean[] {false, true}) {
            Modrings x = new Modrings();
            for (boolean isLong : Made.KINDS) {
                for (int k = 0; k < 4; k++) {
                    Made.set(x, isLong, k, isLeast ? Made.least(isLong) : Made.greatest(isLong));
                }
            }
            Check.asks("42 all at a bound", x, true, () -> x.isSound());
        }
    }

    static void theLeastAndMinusOneNextToEachOtherAreSound() {
        for (int place = 0; place < 4; place++) {
            Modrings x = new Modrings();
            for (boolean isLong : Made.KINDS) {
                Made.set(x, isLong, place, Made.least(isLong));
                // The number 0 is the next one behind 3.
                Made.set(x, isLong, (place + 1) % 4, -1);
            }
            Check.asks("42 the least by -1", x, true, () -> x.isSound());
        }
    }

    static void ringsAtTheEdgesAreSound() {
        int[] moduli = {1, -1, 2, -2, IMAX, -IMAX, IMIN, 1 << 30, 6, -15};
        for (int modulus : moduli) {
            for (int other : moduli) {
                Modrings x = Made.twoRings(modulus, -1, other, 1);
                x.modulus(2, -30);
                Made.fill(x, 2, 29, -1, 0, 7);
                x.put(INT, 0, 0, IMIN);
                x.put(INT, 1, 0, IMAX);
                Check.asks("42 by " + modulus + " and " + other, x, true, () -> x.isSound());
            }
        }
    }

    static void aBusyOneIsSound() {
        Modrings x = Made.busy();
        Check.asks("42 busy", x, true, () -> x.isSound());
    }

    // ---- 43: digest

    static void digestOfANewObject() {
        // Written out: house() 0 0 8 0, then five of each number, then the RINGS, then 1.
        long d = 7837;
        for (int v : new int[] {0, 0, 8, 0}) {
            d = d * 31 + v;
        }
        for (int number = 0; number < 8; number++) {
            for (int v : new int[] {0, 0, 0, 0, 1}) {
                d = d * 31 + v;
            }
        }
        for (int v : new int[] {7, 0, 0, 0, 0, 10, 0, 0, 0, 0, -12, 0, 0, 0, 0, 1}) {
            d = d * 31 + v;
        }
        long due = d;
        Modrings x = new Modrings();
        Check.asks("43 new", x, due, () -> x.digest());
    }

    static void digestWithNumbersAtTheBounds() {
        Modrings x = new Modrings();
        x.put(INT, 0, 0, IMIN);
        x.put(INT, 3, 0, IMAX);
        Made.putLong(x, 0, LMIN);
        Made.putLong(x, 3, LMAX);
        x.modulus(0, IMIN);
        x.modulus(2, IMAX);
        Made.fill(x, 0, 0, -1);
        Made.fill(x, 2, 0, 0, 0, IMAX - 1);
        x.put(INT, 3, 0, IMAX);
        x.knock();
        x.alone(LONG, 0, 1);
        x.alone(LONG, 3, 0);
        int[] values = {
            2, 1, 4, 2,
            -1, IMIN, -1, -1, 11, 0, 0, 0, 0, 1, 0, 0, 0, 0, 1, 1, IMAX, 0, 1, 10,
            -1, 0, IMIN, -1, 20, 0, 0, 0, 0, 1, 0, 0, 0, 0, 1, 1, -1, IMAX, 1, 19,
            IMIN, 0, -1, 0, 0, 10, 0, 0, 0, 0, IMAX, 0, 0, 0, IMAX - 1,
            1,
        };
        long d = 7837;
        for (int v : values) {
            d = d * 31 + v;
        }
        long due = d;
        Check.asks("43 at the bounds", x, due, () -> x.digest());
    }

    static void digestSeesEachPart() {
        Modrings x = Made.busy();
        long before = x.digest();
        for (boolean isLong : Made.KINDS) {
            for (int k = 0; k < 4; k++) {
                Modrings y = Made.busy();
                Made.set(y, isLong, k, 12345);
                Check.same("43 number " + k, y.digest() == before, false);
            }
        }
        for (int ring = 0; ring < 3; ring++) {
            for (int slot = 0; slot < 4; slot++) {
                Modrings y = Made.busy();
                // No SLOT of busy() has the RESIDUE of 2.
                y.put(INT, 0, 0, 2);
                y.bring(ring, slot, INT, 0);
                y.put(INT, 0, 0, 5);
                Check.same("43 SLOT " + slot + " of RING " + ring, y.digest() == before, false);
            }
        }
        Modrings knocked = Made.busy();
        knocked.knock();
        Check.same("43 a knock", knocked.digest() == before, false);
        Modrings refused = Made.busy();
        refused.alone(LONG, 0, 0);
        Check.same("43 what was REFUSED", refused.digest() == before, false);
        Check.same("43 the same again", Made.busy().digest(), before);
    }

    // ---- 512 calls

    static void theLastCallsAreAnsweredAsTheFirst() {
        Modrings x = new Modrings();
        for (int call = 1; call <= 510; call++) {
            x.alone(INT, 0, 0);
        }
        Check.same("40 the 511th call", x.knock(), 1);
        Check.same("23 the 512th call", x.text(INT, 0), "510");
    }

    public static void main(String[] args) {
        Check.run(WholeEdgeTest.class);
    }
}
