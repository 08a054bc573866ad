/** Promises 21 to 28: what was missed, fog, nights by lot. */
public final class MissedTest {
    private static final long BAD_LONG = Long.MIN_VALUE + 2;

    public static void main(String[] args) {
        missing();
        reading();
        omitting();
        asking();
        meaning();
        fog();
        fogRefusals();
        lots();
        Due.end();
    }

    /** Without the rest nothing is taken; without an e the second shop is, without a w the first. */
    private static CatBeat rested() {
        CatBeat x = Due.of("s.s", ".eeww", "004;025");
        x.set(2, 0);
        return x;
    }

    private static void missing() {
        CatBeat x = new CatBeat();
        Due.due("missed(-1, 0)", x.missed(-1, 0), -2);
        Due.due("missed(36, 0)", x.missed(36, 0), -2);
        Due.due("missed(0, 2)", x.missed(0, 2), -2);
        Due.due("missed(0, -1)", x.missed(0, -1), -2);
        for (int i = 1; i <= 8; i++) {
            Due.due("missed, " + i, x.missed(35, 1), i);
        }
        Due.due("missed, one more", x.missed(0, 0), -4);
        Due.due("missed, one more and wrong", x.missed(36, 0), -2);
        Due.due("count(7)", x.count(7), 8);
        Due.due("forget()", x.forget(), 8);
        Due.due("forget() again", x.forget(), 0);
        Due.due("count(7)", x.count(7), 0);
    }

    private static void fill(CatBeat x, int s, int form, int... items) {
        x.sheet(s, form, items.length);
        for (int i = 0; i < items.length; i++) {
            x.put(s, form, i, items[i]);
        }
    }

    private static void reading() {
        CatBeat x = rested();
        Due.due("read(-1)", x.read(-1), -2);
        Due.due("read(4)", x.read(4), -2);
        Due.due("count(8)", x.count(8), 0);
        Due.due("read(0), lost", x.read(0), -11);
        Due.due("count(8)", x.count(8), 1);
        fill(x, 0, 0, 2, 1, 5);
        Due.due("read(0), with half a one", x.read(0), 1);
        Due.due("count(7)", x.count(7), 1);
        Due.due("omitted()", x.omitted(), 6);
        x.forget();
        fill(x, 1, 1, 0, 0, 35, 0, 36, 0, 1, 0);
        Due.due("read(1), up to a wrong cell", x.read(1), 2);
        fill(x, 2, 2, 0, 2, 1, 0);
        Due.due("read(2), with a wrong one first", x.read(2), 0);
        Due.due("count(7)", x.count(7), 2);
        fill(x, 3, 2, 1, 0, 1, 0, 1, 0, 1, 0, 1, 0, 1, 0, 1, 0, 1, 0);
        Due.due("read(3), up to the full", x.read(3), 6);
        Due.due("count(7)", x.count(7), 8);
        x.forget();
        Due.due("read(3), all eight", x.read(3), 8);
        x.forget();
        x.sheet(0, 0, 0);
        Due.due("read(0), no items", x.read(0), 0);
    }

    private static void omitting() {
        CatBeat x = rested();
        Due.due("omitted(), nothing missed", x.omitted(), 31);
        x.missed(2, 1);
        Due.due("omitted(), the second taken from", x.omitted(), 6);
        x.forget();
        x.missed(0, 1);
        Due.due("omitted(), the first taken from", x.omitted(), 24);
        x.missed(0, 0);
        Due.due("omitted(), against each other", x.omitted(), 0);
        x.forget();
        x.missed(0, 0);
        x.missed(2, 0);
        Due.due("omitted(), neither", x.omitted(), 1);
        x.forget();
        x.missed(1, 0);
        Due.due("omitted(), not from an open cell", x.omitted(), 31);
        x.missed(35, 0);
        Due.due("omitted(), not from no cell", x.omitted(), 31);
        x.missed(35, 1);
        Due.due("omitted(), from no cell", x.omitted(), 0);
    }

    private static void asking() {
        CatBeat x = rested();
        Due.due("ask(), of like ones", x.ask(), 0);
        x.missed(0, 0);
        Due.due("ask(), the first is known", x.ask(), 2);
        x.missed(0, 1);
        Due.due("ask(), none left", x.ask(), 0);
        Due.due("ask(), no shops", Due.of("...", "e", "011").ask(), -1);
        Due.due("ask(), no beat", Due.of(".s", "", "").ask(), 1);
    }

    private static void meaning() {
        CatBeat x = Due.of("s.s", "eeww", "003;024");
        x.set(2, 0);
        Due.due("meant(0, NONE), nothing missed", x.meant(0, -1), 3);
        for (int i = 0; i < 3; i++) {
            Due.due("meant(0, " + i + "), nothing missed", x.meant(0, i), i);
        }
        Due.due("meant(0, 3), nothing missed", x.meant(0, 3), -1);
        Due.due("meant(0, 35)", x.meant(0, 35), -1);
        x.missed(0, 1);
        Due.due("meant(0, NONE)", x.meant(0, -1), 1);
        Due.due("meant(0, 0)", x.meant(0, 0), 0);
        Due.due("meant(0, 1)", x.meant(0, 1), -1);
        Due.due("meant(1, NONE), by another", x.meant(1, -1), 3);
        x.missed(2, 1);
        Due.due("meant(0, NONE), too much", x.meant(0, -1), 0);
        Due.due("meant(0, 0), too much", x.meant(0, 0), -1);
        x.forget();
        x.missed(2, 1);
        Due.due("meant(0, NONE), the other shop", x.meant(0, -1), 1);
        Due.due("meant(0, 0), the other shop", x.meant(0, 0), 2);
        x.forget();
        x.missed(0, 0);
        Due.due("meant(0, NONE), not its own", x.meant(0, -1), 2);
        Due.due("meant(0, 0), not its own", x.meant(0, 0), 1);
        Due.due("meant(0, 1), not its own", x.meant(0, 1), 2);
        Due.due("meant(2, NONE)", x.meant(2, -1), -2);
        Due.due("meant(-1, NONE)", x.meant(-1, -1), -2);
        Due.due("meant(0, -2)", x.meant(0, -2), -2);
        Due.due("meant(0, 36)", x.meant(0, 36), -2);
    }

    private static void dueFog(CatBeat x, int c, int steps, int thief, long above, long below) {
        Due.due("fogged above " + c + " " + steps + " " + thief, x.fogged(c, steps, thief, 0), above);
        Due.due("fogged below " + c + " " + steps + " " + thief, x.fogged(c, steps, thief, 1), below);
    }

    /** From two cells away a shop is seen but in fog, so that fog alone lets it be taken from. */
    private static void fog() {
        CatBeat x = Due.of("s..", "", "001;002;011;391;009");
        x.set(0, 2);
        dueFog(x, 8, 0, 0, 1, 2);
        dueFog(x, 8, 1, 0, 3, 4);
        dueFog(x, 4, 0, 0, 1, 4);
        dueFog(x, 4, 1, 0, 7, 16);
        dueFog(x, 0, 9, 0, 0, 1);
        dueFog(x, 16, 0, 0, 1, 1);
        dueFog(x, 1, 9, 0, 522861237151L, 1099511627776L);
        dueFog(x, 8, 0, 1, 0, 1);
        dueFog(x, 8, 1, 1, 1, 4);
        dueFog(x, 8, 2, 1, 3, 8);
        dueFog(x, 8, 5, 2, 0, 1);
        dueFog(x, 16, 5, 3, 0, 1);
        dueFog(x, 16, 7, 4, 0, 1);
        dueFog(x, 16, 8, 4, 1, 1);
        dueFog(x, 8, 8, 4, 1, 512);
        dueFog(x, 8, 9, 4, 3, 1024);
        x.set(3, 1);
        Due.due("takes(0) in the fog that is told", x.takes(0), 0);
        dueFog(x, 0, 0, 0, 0, 1);
        dueFog(x, 4, 1, 0, 7, 16);
        x.set(2, 0);
        dueFog(x, 0, 0, 0, 1, 1);
        x.set(2, 3);
        x.set(0, 1);
        dueFog(x, 16, 9, 0, 0, 1);
        x.set(0, 35);
        dueFog(x, 3, 3, 4, 1, 1);
    }

    private static void fogRefusals() {
        CatBeat x = Due.of("s..", "", "001");
        Due.due("fogged, c below", x.fogged(-1, 0, 0, 0), BAD_LONG);
        Due.due("fogged, c above", x.fogged(17, 0, 0, 0), BAD_LONG);
        Due.due("fogged, steps below", x.fogged(0, -1, 0, 0), BAD_LONG);
        Due.due("fogged, steps above", x.fogged(0, 10, 0, 0), BAD_LONG);
        Due.due("fogged, thief below", x.fogged(0, 0, -1, 0), BAD_LONG);
        Due.due("fogged, thief above", x.fogged(0, 0, 1, 0), BAD_LONG);
        Due.due("fogged, what below", x.fogged(0, 0, 0, -1), BAD_LONG);
        Due.due("fogged, what above", x.fogged(0, 0, 0, 2), BAD_LONG);
    }

    /** The first lots of seed 1 are weww.nwsne.s.wnesen..ene, worked out apart from the program. */
    private static void lots() {
        int[] places = {14, 13, 14, 13, 12, 12, 6, 6, 12, 6, 7, 7, 13, 13, 12, 6, 7, 13, 14, 8, 8, 8, 9, 3, 4};
        CatBeat x = Due.of("......;......;......;......;......;......", "eeee", "001");
        x.set(0, 14);
        for (int n = 1; n <= 24; n++) {
            Due.due("nights(1, " + n + ", 1)", x.nights(1, n, 1), places[n]);
        }
        Due.due("nights of no shops", x.nights(1, 24, 0), 0);
        CatBeat z = Due.of(".s", "", "012;013;014");
        z.set(2, 0);
        Due.due("nights(1, 1, 0), w round and round", z.nights(1, 1, 0), 3);
        Due.due("nights(1, 2, 0), we round and round", z.nights(1, 2, 0), 1);
        Due.due("nights(1, 3, 0), wew round and round", z.nights(1, 3, 0), 1);
        Due.due("nights(1, 5, 0), weww. round and round", z.nights(1, 5, 0), 3);
        CatBeat y = Due.of("s", "", "001");
        Due.due("nights, where nothing moves", y.nights(5, 5, 0), 0);
        y.set(0, 1);
        Due.due("nights from nowhere", y.nights(5, 5, 0), 1);
        Due.due("nights from nowhere, where", y.nights(5, 5, 1), -1);
        Due.due("nights(1, 0, 0)", y.nights(1, 0, 0), -2);
        Due.due("nights(1, 25, 0)", y.nights(1, 25, 0), -2);
        Due.due("nights(1, 1, 2)", y.nights(1, 1, 2), -2);
        Due.due("nights(1, 1, -1)", y.nights(1, 1, -1), -2);
        Due.due("nights changes nothing", x.beat(0), 1);
    }
}
