import java.lang.reflect.Field;

/**
 * That isSound() looks: by the face no object is ever unsound, so that one which always answers true
 * would pass all other tests. This is the one test that reaches into the private rows (by their names),
 * puts there what no call can, and asks.
 */
public final class SoundnessTest {
    private static Object row(Modrings x, String name) {
        try {
            Field field = Modrings.class.getDeclaredField(name);
            field.setAccessible(true);
            return field.get(x);
        } catch (ReflectiveOperationException e) {
            throw new IllegalStateException("there is no row " + name, e);
        }
    }

    private static void unsound(String what, Modrings x) {
        Check.same("42 isSound, " + what, x.isSound(), false);
        Check.same("43 digest, " + what, x.digest(), Made.digest(x, false));
    }

    static void aResidueThatIsNotItsOwnRest() {
        int[][] none = {{7, -1, 70}, {10, -1, 100}, {-12, 1, -120}};
        for (int ring = 0; ring < 3; ring++) {
            for (int slot = 0; slot < 4; slot++) {
                for (int residue : none[ring]) {
                    Modrings x = Made.busy();
                    ((int[]) row(x, "residues"))[ring * 4 + slot] = residue;
                    unsound("RING " + ring + " SLOT " + slot + ": " + residue, x);
                }
            }
        }
    }

    static void anIntBeyondItsBounds() {
        for (int k = 0; k < 4; k++) {
            Modrings x = Made.ints(1, 1, 1, 1);
            ((long[]) row(x, "ints"))[k] = 1L << 40;
            unsound("INT " + k, x);
        }
    }

    /** The other numbers are 0, so that the law of this INT and the next one (0 behind 3) alone is broken. */
    static void anIntAndTheNextOne() {
        for (int k = 0; k < 4; k++) {
            Modrings x = new Modrings();
            ((long[]) row(x, "ints"))[k] = 1L << 40;
            x.put(false, (k + 1) % 4, 0, 1);
            unsound("INT " + k + " and the next one", x);
        }
    }

    public static void main(String[] args) {
        Check.run(SoundnessTest.class);
    }
}
